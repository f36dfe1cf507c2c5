import java.util.ArrayList;
import java.util.List;

/**
 * What the tests by hand share: answers and throws that are due, texts that are told, and twins: two objects that came
 * the same way, of which one meets a call that must change nothing.
 */
class Due {
    static final int NONE = SonsLot.NONE;
    static final int LEAST = Integer.MIN_VALUE;
    static final int MOST = Integer.MAX_VALUE;
    static final String NO_SUCH_ELEMENT = "java.util.NoSuchElementException";
    static final String ILLEGAL_ARGUMENT = "java.lang.IllegalArgumentException";

    /** WORTH of its plots to everyone: 4, 10, -2; so the shares are 1, 0, 2; harvests there 9, 5, 12. */
    static final String THREE =
        "house 5 2 0;house 3 8 1;house 4 4 2;plot 10 10 2;plot 12 10 6;plot 0 0 9;";

    /** Each house likes the plot whose water is its tribe. */
    static final String TASTES =
        "house 1 2 0;house 1 2 1;house 1 2 2;plot 0 0 0;plot 1 0 1;plot 2 0 2;worth water=tribe;";

    /** Each of eight houses likes the plot whose water is its strength: house h has plot h. */
    static final String EIGHT_TASTES = eightTastes();

    private static int wrong = 0;
    private static int checks = 0;
    private static int sentences = 0;
    private static String about = "";

    interface Call {
        long answer();
    }

    interface Ask {
        long of(SonsLot x);
    }

    // ---- what is due

    static void promise(int number) {
        about = "promise " + number;
    }

    /** What follows holds the calls against these words of the document. */
    static void sentence(int promise, String words) {
        about = "promise " + promise + ", '" + words + "'";
        sentences++;
    }

    static void end() {
        System.out.println((sentences == 0 ? "" : sentences + " sentences, ") + checks + " checks, "
            + wrong + " are not as due");
        if (wrong != 0) {
            System.exit(1);
        }
    }

    private static void holds(boolean holds, String otherwise) {
        checks++;
        if (!holds) {
            wrong++;
            System.out.println(about + ": " + otherwise);
        }
    }

    static void due(String call, long got, long want) {
        holds(got == want, call + " answered " + got + ", due is " + want);
    }

    static void due(String call, boolean got, boolean want) {
        holds(got == want, call + " answered " + got + ", due is " + want);
    }

    static void none(String call, Call c) {
        throwsOne(call, c, NO_SUCH_ELEMENT);
    }

    static void illegal(String call, Call c) {
        throwsOne(call, c, ILLEGAL_ARGUMENT);
    }

    private static void throwsOne(String call, Call c, String want) {
        String got = "nothing";
        try {
            c.answer();
        } catch (RuntimeException e) {
            got = e.getClass().getName();
        }
        holds(got.equals(want), call + " throws " + got + ", due is " + want);
    }

    // ---- texts

    /** Blanks fill the last twenty bytes up. */
    static void tape(SonsLot x, String text) {
        for (int i = 0; i < text.length(); i += 20) {
            int[] n = new int[5];
            for (int k = 0; k < 20; k++) {
                n[k / 4] = n[k / 4] << 8 | (i + k < text.length() ? text.charAt(i + k) & 255 : ' ');
            }
            x.feed(n[0], n[1], n[2], n[3], n[4]);
        }
    }

    static int tell(SonsLot x, String text) {
        tape(x, text);
        return x.island(text.length());
    }

    static SonsLot of(String text) {
        SonsLot x = new SonsLot();
        due("island of " + text, tell(x, text), 0);
        return x;
    }

    /** On an object with an island, so that a text that is refused has something to spoil. */
    static void fault(String text, int kind, int place) {
        SonsLot x = of(THREE);
        due("island of " + text, tell(x, text), kind);
        due("fault of " + text, x.fault(), place);
        if (kind != 0) {
            due("STATUS after " + text, x.count(13), 1);
            due("houses after " + text, x.count(0), 3);
            due("plots after " + text, x.count(1), 3);
            due("worth after " + text, x.count(0) * x.count(1) == 9 ? x.worth(0, 1) : 0, 10);
        }
    }

    static void fine(String text) {
        fault(text, 0, NONE);
    }

    static String houses(int many) {
        return "house 1 1 1;".repeat(many);
    }

    static String plots(int many) {
        StringBuilder plots = new StringBuilder();
        for (int i = 0; i < many; i++) {
            plots.append("plot ").append(i).append(" 0 0;");
        }
        return plots.toString();
    }

    private static String eightTastes() {
        StringBuilder text = new StringBuilder();
        for (int i = 0; i < 8; i++) {
            text.append("house ").append(i).append(" 9 0;plot ").append(i).append(" 0 ").append(i).append(';');
        }
        return text.append("worth water=strength;").toString();
    }

    static void shares(SonsLot x, int... plots) {
        for (int h = 0; h < plots.length; h++) {
            due("share of " + h, x.house(h, 4), plots[h]);
        }
    }

    static void stores(SonsLot x, int... stores) {
        for (int h = 0; h < stores.length; h++) {
            due("store of " + h, x.house(h, 5), stores[h]);
        }
    }

    static void places(SonsLot x, int... places) {
        for (int h = 0; h < places.length; h++) {
            due("place of " + h, x.house(h, 6), places[h]);
        }
    }

    static void counts(SonsLot x, int... counts) {
        for (int what = 0; what < counts.length; what++) {
            due("count " + what, x.count(what), counts[what]);
        }
    }

    // ---- twins

    /** In the midst of all: acts, an image, sights, one call of each kind refused, a fault. */
    private static SonsLot busyWithoutTape() {
        SonsLot x = new SonsLot();
        tell(x, THREE + "rain 3 7;yields water+rain+strength;");
        x.see(0, 1, 9);
        x.market(5, 5);
        x.image();
        x.turn(1);
        x.order(2, 0);
        x.exchange(0, 1);
        x.years(2);
        x.see(1, 2, 3);
        x.see(0, 100, 0);
        x.market(-1, 0);
        tell(x, " ;");
        return x;
    }

    /** Twenty bytes are on its tape, too. */
    static SonsLot busy() {
        SonsLot x = busyWithoutTape();
        tape(x, "house 1 1 1;");
        return x;
    }

    /** The call throws this, and changes nothing. */
    static void barred(String call, Ask ask, String want) {
        SonsLot met = busy();
        throwsOne(call, () -> ask.of(met), want);
        same(call, probe(met, NONE, true), probe(busy(), NONE, true));
    }

    static void noSuch(String call, Ask ask) {
        barred(call, ask, NO_SUCH_ELEMENT);
    }

    static void notLegal(String call, Ask ask) {
        barred(call, ask, ILLEGAL_ARGUMENT);
    }

    /** The call answers this, and changes nothing but that this STATUS is one more (NONE: not even that). */
    static void changesNothing(String call, Ask ask, long want, int status) {
        SonsLot met = busy();
        due(call, ask.of(met), want);
        same(call, probe(met, status, true), probe(busy(), NONE, true));
    }

    /** A question changes nothing, whatever it answers. */
    static void onlyAsks(String call, Ask ask) {
        SonsLot met = busy();
        ask.of(met);
        same(call, probe(met, NONE, true), probe(busy(), NONE, true));
    }

    /** A text with a fault changes nothing but STATUS, and what fault() tells. */
    static void textChangesNothing(String text, int kind) {
        SonsLot met = busyWithoutTape();
        due("island of " + text, tell(met, text), kind);
        due("bytes behind " + text, met.count(12), 0);
        same("island of " + text, probe(met, 0, false), probe(busyWithoutTape(), NONE, false));
    }

    private static void same(String call, List<String> met, List<String> twin) {
        String unlike = "";
        for (int i = 0; i < Math.max(met.size(), twin.size()) && unlike.isEmpty(); i++) {
            String one = i < met.size() ? met.get(i) : "nothing";
            String two = i < twin.size() ? twin.get(i) : "nothing";
            unlike = one.equals(two) ? "" : one + ", but on its twin " + two;
        }
        holds(unlike.isEmpty(), "behind " + call + " " + unlike);
    }

    /** All that can be asked of an object with three houses and plots; at last its acts, its image and its tape. */
    private static List<String> probe(SonsLot x, int oneMore, boolean withText) {
        List<String> told = new ArrayList<>();
        probeState(x, told, oneMore, withText);
        probeQuestions(x, told);
        for (int left = x.undo(); left >= 0 && told.size() < 400; left = x.undo()) {
            told.add("undo " + left);
            probeActs(x, told);
        }
        told.add("restore " + x.restore());
        probeState(x, told, NONE, withText);
        if (withText) {
            told.add("island " + x.island(Math.min(12, x.count(12))));
            told.add("houses " + x.count(0));
        }
        return told;
    }

    private static void probeState(SonsLot x, List<String> told, int oneMore, boolean withText) {
        if (withText) {
            told.add("fault " + x.fault());
            told.add("tape " + x.count(12));
        }
        for (int what = 0; what < 16; what++) {
            if (what != 12) {
                told.add("count " + what + " " + (x.count(what) - (oneMore >= 0 && what == 13 + oneMore ? 1 : 0)));
            }
        }
        for (int h = 0; h < 3; h++) {
            for (int what = 0; what < 8; what++) {
                told.add("house " + h + " " + what + " " + x.house(h, what));
            }
        }
        for (int p = 0; p < 3; p++) {
            for (int what = 0; what < 5; what++) {
                told.add("plot " + p + " " + what + " " + x.plot(p, what));
            }
        }
        told.add("brothers " + x.brothers());
    }

    private static void probeActs(SonsLot x, List<String> told) {
        int[] whats = {2, 4, 6, 7, 8, 9, 10, 11};
        for (int what : whats) {
            told.add("count " + what + " " + x.count(what));
        }
        for (int h = 0; h < 3; h++) {
            for (int what = 4; what < 7; what++) {
                told.add("house " + h + " " + what + " " + x.house(h, what));
            }
        }
    }

    private static void probeQuestions(SonsLot x, List<String> told) {
        told.add("free " + x.free());
        told.add("ring " + x.ring());
        told.add("best " + x.best(NONE));
        told.add("fairest " + x.fairest(1));
        told.add("tribes " + x.tribes());
        told.add("middle " + x.middle());
        told.add("holdsOut " + x.holdsOut());
        told.add("tithes " + x.tithes(9));
        told.add("famine " + x.famine(9));
        told.add("richest " + x.richest(9));
        told.add("change " + x.change(9));
        told.add("envied " + x.envied(1));
        told.add("lotsFor " + x.lotsFor(12, NONE));
        for (int what = 0; what < 3; what++) {
            told.add("founders " + what + " " + x.founders(7, 3, what));
        }
        for (int h = 0; h < 3; h++) {
            told.add("best " + h + " " + x.best(h));
            told.add("then " + h + " " + x.then(h, 9));
            told.add("starves " + h + " " + x.starves(h));
            told.add("bushels " + h + " " + x.bushels(h, 9));
            told.add("lastPlace " + h + " " + x.lastPlace(h));
            told.add("look " + h + " " + x.look(h, 1));
            told.add("without " + h + " " + x.without(h, (h + 1) % 3));
            told.add("game " + h + " " + x.game(h, (h + 1) % 3, h, 1));
            for (int p = 0; p < 3; p++) {
                told.add("worth " + h + " " + p + " " + x.worth(h, p));
                told.add("harvest " + h + " " + p + " " + x.harvest(h, p, 5));
            }
        }
    }
}
