import java.util.ArrayList;
import java.util.List;
import java.util.NoSuchElementException;
import java.util.Random;
import java.util.function.IntBinaryOperator;

/**
 * Random runs of calls on SonsLot beside a model of the document that is written for plainness alone:
 * trees for rules, whole copies for acts and images, every way tried for shares.
 */
public final class SonsLotModel {
    private static final int RUNS = 1500;
    private static int wrong = 0;

    public static void main(String[] args) {
        long calls = 0;
        for (int run = 0; run < RUNS; run++) {
            calls += new Run(run).play();
        }
        System.out.println(calls + " calls of " + RUNS + " runs, " + wrong + " answers are not as due");
        if (wrong != 0) {
            System.exit(1);
        }
    }

    // ------------------------------------------------------------------ the model

    static final class Fault extends Exception {
        final int kind;
        final int place;

        Fault(int kind, int place) {
            this.kind = kind;
            this.place = place;
        }
    }

    static final class Token {
        final String text;
        final int at;

        Token(String text, int at) {
            this.text = text;
            this.at = at;
        }

        boolean is(String s) {
            return text.equals(s);
        }

        boolean isNumber() {
            return !text.isEmpty() && Character.isDigit(text.charAt(0));
        }

        boolean isWord() {
            return !text.isEmpty() && text.charAt(0) >= 'a' && text.charAt(0) <= 'z';
        }
    }

    interface Tree {
        int of(java.util.Map<String, Integer> values);
    }

    static final class Told {
        List<int[]> houses = new ArrayList<>();
        List<int[]> plots = new ArrayList<>();
        int[] market = null;
        List<Integer> rain = null;
        Integer eats = null;
        Tree worth = null;
        Tree yields = null;
    }

    static final class Parser {
        final List<Token> tokens = new ArrayList<>();
        final Told told = new Told();
        int i = 0;
        List<String> allowed;

        Parser(String text) {
            java.util.regex.Matcher m = java.util.regex.Pattern.compile("[a-z]+|[0-9]+|[ \n]+|.",
                    java.util.regex.Pattern.DOTALL).matcher(text);
            while (m.find()) {
                if (!m.group().isEmpty() && m.group().charAt(0) != ' ' && m.group().charAt(0) != '\n') {
                    tokens.add(new Token(m.group(), m.start()));
                }
            }
            tokens.add(new Token("", text.length()));
        }

        Token t() {
            return tokens.get(i);
        }

        Fault fault(int kind) {
            return new Fault(kind, t().at);
        }

        Told parse() throws Fault {
            while (!t().is("")) {
                line();
                need(";");
            }
            return told;
        }

        void need(String s) throws Fault {
            if (!t().is(s)) {
                throw fault(1);
            }
            i++;
        }

        int number(int most) throws Fault {
            if (!t().isNumber()) {
                throw fault(1);
            }
            if (t().text.length() > 4 || Integer.parseInt(t().text) > most) {
                throw fault(2);
            }
            return Integer.parseInt(tokens.get(i++).text);
        }

        void line() throws Fault {
            switch (t().text) {
                case "house": {
                    if (told.houses.size() == 8) {
                        throw fault(2);
                    }
                    i++;
                    told.houses.add(new int[] {number(9), number(9), number(2)});
                    break;
                }
                case "plot": {
                    if (told.plots.size() == 9) {
                        throw fault(2);
                    }
                    i++;
                    int x = number(20);
                    int y = number(20);
                    for (int[] p : told.plots) {
                        if (p[0] == x && p[1] == y) {
                            i--;
                            throw fault(4);
                        }
                    }
                    told.plots.add(new int[] {x, y, number(9)});
                    break;
                }
                case "market": {
                    if (told.market != null) {
                        throw fault(5);
                    }
                    i++;
                    told.market = new int[] {number(20), number(20)};
                    break;
                }
                case "rain": {
                    if (told.rain != null) {
                        throw fault(5);
                    }
                    i++;
                    told.rain = new ArrayList<>();
                    told.rain.add(number(9));
                    while (t().isNumber()) {
                        if (told.rain.size() == 10) {
                            throw fault(2);
                        }
                        told.rain.add(number(9));
                    }
                    break;
                }
                case "eats": {
                    if (told.eats != null) {
                        throw fault(5);
                    }
                    i++;
                    told.eats = number(20);
                    break;
                }
                case "worth": {
                    if (told.worth != null) {
                        throw fault(5);
                    }
                    i++;
                    allowed = List.of("strength", "tribe", "water", "walk", "younger");
                    told.worth = expr(0);
                    break;
                }
                case "yields": {
                    if (told.yields != null) {
                        throw fault(5);
                    }
                    i++;
                    allowed = List.of("strength", "tribe", "water", "walk", "younger", "rain", "year");
                    told.yields = expr(0);
                    break;
                }
                default:
                    throw fault(1);
            }
        }

        static Tree join(Tree l, Tree r, IntBinaryOperator op) {
            return v -> op.applyAsInt(l.of(v), r.of(v));
        }

        Tree expr(int within) throws Fault {
            if (within == 6 && (t().isNumber() || t().isWord() || t().is("("))) {
                throw fault(2);
            }
            Tree l = and(within);
            while (t().is("or")) {
                i++;
                l = join(l, and(within), (a, b) -> a != 0 || b != 0 ? 1 : 0);
            }
            return l;
        }

        Tree and(int within) throws Fault {
            Tree l = not(within, 0);
            while (t().is("and")) {
                i++;
                l = join(l, not(within, 0), (a, b) -> a != 0 && b != 0 ? 1 : 0);
            }
            return l;
        }

        Tree not(int within, int nots) throws Fault {
            if (t().is("not")) {
                if (nots == 6) {
                    throw fault(2);
                }
                i++;
                Tree inner = not(within, nots + 1);
                return v -> inner.of(v) == 0 ? 1 : 0;
            }
            Tree l = sum(within);
            if (t().is("<")) {
                i++;
                return join(l, sum(within), (a, b) -> a < b ? 1 : 0);
            }
            if (t().is("=")) {
                i++;
                return join(l, sum(within), (a, b) -> a == b ? 1 : 0);
            }
            return l;
        }

        Tree sum(int within) throws Fault {
            Tree l = product(within);
            while (t().is("+") || t().is("-")) {
                boolean plus = tokens.get(i++).is("+");
                l = join(l, product(within), (a, b) -> plus ? a + b : a - b);
            }
            return l;
        }

        Tree product(int within) throws Fault {
            Tree l = part(within);
            while (t().is("*") || t().is("/")) {
                boolean times = tokens.get(i++).is("*");
                l = join(l, part(within), (a, b) -> times ? a * b : b == 0 ? 0 : a / b);
            }
            return l;
        }

        Tree part(int within) throws Fault {
            if (t().isNumber()) {
                int n = number(9999);
                return v -> n;
            }
            if (t().isWord()) {
                String name = t().text;
                if (!allowed.contains(name)) {
                    throw fault(3);
                }
                i++;
                return v -> v.get(name);
            }
            if (t().is("(")) {
                i++;
                Tree inner = expr(within + 1);
                need(")");
                return inner;
            }
            throw fault(1);
        }
    }

    static final class Seen {
        final int house;
        final int year;
        final int harvest;

        Seen(int house, int year, int harvest) {
            this.house = house;
            this.year = year;
            this.harvest = harvest;
        }
    }

    /** What acts change. */
    static final class World {
        int[] lot = new int[0];
        List<Integer> order = new ArrayList<>();
        int[] share = new int[0];
        int[] store = new int[0];
        boolean[] gone = new boolean[0];
        int marketX = 10;
        int marketY = 10;
        int year = 0;
        int tithe = 0;
        int curses = 0;

        World copy() {
            World w = new World();
            w.lot = lot.clone();
            w.order = new ArrayList<>(order);
            w.share = share.clone();
            w.store = store.clone();
            w.gone = gone.clone();
            w.marketX = marketX;
            w.marketY = marketY;
            w.year = year;
            w.tithe = tithe;
            w.curses = curses;
            return w;
        }
    }

    static final class Model {
        Told told = new Told();
        World w = new World();
        List<World> acts = new ArrayList<>();
        List<Seen> seen = new ArrayList<>();
        int[] status = new int[3];
        StringBuilder tape = new StringBuilder();
        int faultAt = -1;
        World imageWorld = null;
        List<World> imageActs = null;
        List<Seen> imageSeen = null;
        int[] imageStatus = null;

        int houses() {
            return told.houses.size();
        }

        int plots() {
            return told.plots.size();
        }

        long call(String name, int[] a) {
            switch (name) {
                case "feed": return feed(a);
                case "island": return island(a[0]);
                case "fault": return faultAt;
                case "count": return count(a[0]);
                case "house": return house(a[0], a[1]);
                case "plot": return plot(a[0], a[1]);
                case "worth": needHouse(a[0]); needPlot(a[1]); return worth(w, a[0], a[1]);
                case "harvest": needHouse(a[0]); needPlot(a[1]); within(a[2], 0, 999);
                    return crop(w, a[0], w.lot[a[0]], a[1], a[2]);
                case "lots": return lots(a[0]);
                case "turn": return turn(a[0]);
                case "order": return order(a[0], a[1]);
                case "exchange": return exchange(a[0], a[1]);
                case "market": return market(a[0], a[1]);
                case "years": return years(a[0]);
                case "undo": return undo();
                case "ring": return ring();
                case "best": return best(a[0]);
                case "fairest": return fairest(a[0]);
                case "tribes": return tribes();
                case "middle": return middle();
                case "then": needHouse(a[0]); within(a[1], 0, 50); return after(a[1]).store[a[0]];
                case "starves": return starves(a[0]);
                case "tithes": within(a[0], 0, 50); return after(a[0]).tithe - w.tithe;
                case "holdsOut": return holdsOut();
                case "lotsFor": return lotsFor(a[0], a[1]);
                case "change": return change(a[0]);
                case "envied": return envied(a[0]);
                case "without": return without(a[0], a[1]);
                case "lastPlace": return lastPlace(a[0]);
                case "famine": within(a[0], 0, 50); return Integer.bitCount(bits(after(a[0]).gone));
                case "bushels": return bushels(a[0], a[1]);
                case "free": return free();
                case "richest": return richest(a[0]);
                case "see": return see(a[0], a[1], a[2]);
                case "brothers": return brothers();
                case "look": return look(a[0], a[1]);
                case "forget": seen.clear(); return 0;
                case "game": return game(a[0], a[1], a[2], a[3]);
                case "founders": return founders(a[0], a[1], a[2]);
                case "image": imageWorld = w.copy(); imageActs = new ArrayList<>(acts);
                    imageSeen = new ArrayList<>(seen); imageStatus = status.clone(); return 0;
                case "restore": return restore();
                default: throw new AssertionError(name);
            }
        }

        void needHouse(int h) {
            if (h < 0 || h >= houses()) {
                throw new NoSuchElementException();
            }
        }

        void needPlot(int p) {
            if (p < 0 || p >= plots()) {
                throw new NoSuchElementException();
            }
        }

        void what(int what, int many) {
            if (what < 0 || what >= many) {
                throw new NoSuchElementException();
            }
        }

        void within(int n, int lo, int hi) {
            if (n < lo || n > hi) {
                throw new IllegalArgumentException();
            }
        }

        int feed(int[] a) {
            if (tape.length() + 20 > 700) {
                return -1;
            }
            for (int n : a) {
                for (int s = 24; s >= 0; s -= 8) {
                    tape.append((char) (n >>> s & 255));
                }
            }
            return tape.length();
        }

        int island(int n) {
            within(n, 0, tape.length());
            String text = tape.substring(0, n);
            tape.setLength(0);
            Told fresh;
            try {
                fresh = new Parser(text).parse();
            } catch (Fault f) {
                faultAt = f.place;
                status[0]++;
                return f.kind;
            }
            faultAt = -1;
            told = fresh;
            w = new World();
            w.lot = new int[houses()];
            w.share = new int[houses()];
            w.store = new int[houses()];
            w.gone = new boolean[houses()];
            for (int h = 0; h < houses(); h++) {
                w.order.add(h);
            }
            if (told.market != null) {
                w.marketX = told.market[0];
                w.marketY = told.market[1];
            }
            acts.clear();
            seen.clear();
            imageWorld = null;
            take(w, -1);
            return 0;
        }

        int rain(int year) {
            return told.rain == null ? 3 : told.rain.get(year % told.rain.size());
        }

        int eats() {
            return told.eats == null ? 4 : told.eats;
        }

        int walk(int x, int y, int p) {
            return Math.abs(told.plots.get(p)[0] - x) + Math.abs(told.plots.get(p)[1] - y);
        }

        java.util.Map<String, Integer> values(World v, int h, int lot, int p) {
            java.util.Map<String, Integer> m = new java.util.HashMap<>();
            m.put("strength", told.houses.get(h)[lot]);
            m.put("tribe", told.houses.get(h)[2]);
            m.put("water", told.plots.get(p)[2]);
            m.put("walk", walk(v.marketX, v.marketY, p));
            m.put("younger", lot);
            return m;
        }

        int worth(World v, int h, int p) {
            if (told.worth == null) {
                return told.plots.get(p)[2] * 2 - walk(v.marketX, v.marketY, p);
            }
            return told.worth.of(values(v, h, v.lot[h], p));
        }

        int crop(World v, int h, int lot, int p, int year) {
            if (p == -1) {
                return 0;
            }
            int crop;
            if (told.yields == null) {
                crop = told.plots.get(p)[2] + rain(year);
            } else {
                java.util.Map<String, Integer> m = values(v, h, lot, p);
                m.put("rain", rain(year));
                m.put("year", year);
                crop = told.yields.of(m);
            }
            return crop < 0 ? 0 : crop > 99 ? 99 : crop;
        }

        void take(World v, int absent) {
            List<Integer> left = new ArrayList<>();
            for (int p = 0; p < plots(); p++) {
                left.add(p);
            }
            for (int h : v.order) {
                v.share[h] = -1;
                if (h == absent || left.isEmpty()) {
                    continue;
                }
                int pick = left.get(0);
                for (int p : left) {
                    if (worth(v, h, p) > worth(v, h, pick)) {
                        pick = p;
                    }
                }
                left.remove(Integer.valueOf(pick));
                v.share[h] = pick;
            }
        }

        void year(World v) {
            for (int h = 0; h < houses(); h++) {
                if (v.gone[h]) {
                    continue;
                }
                int crop = crop(v, h, v.lot[h], v.share[h], v.year);
                v.tithe += crop / 10;
                v.store[h] += crop - crop / 10;
                if (v.store[h] > 999) {
                    v.store[h] = 999;
                }
                if (v.store[h] < eats()) {
                    v.store[h] = 0;
                    v.gone[h] = true;
                } else {
                    v.store[h] -= eats();
                }
            }
            v.year++;
        }

        World after(int years) {
            World v = w.copy();
            for (int i = 0; i < years; i++) {
                year(v);
            }
            return v;
        }

        static int bits(boolean[] b) {
            int r = 0;
            for (int i = 0; i < b.length; i++) {
                r |= b[i] ? 1 << i : 0;
            }
            return r;
        }

        int lotBits(World v) {
            int r = 0;
            for (int i = 0; i < v.lot.length; i++) {
                r |= v.lot[i] << i;
            }
            return r;
        }

        int count(int what) {
            what(what, 16);
            return new int[] {houses(), plots(), 100 * w.marketY + w.marketX, eats(), w.year, rain(w.year), bits(w.gone),
                w.tithe, w.curses, lotBits(w), acts.size(), seen.size(), tape.length(), status[0], status[1],
                status[2]}[what];
        }

        boolean envies(int a, int b) {
            if (a == b || w.share[b] == -1) {
                return false;
            }
            return w.share[a] == -1 || worth(w, a, w.share[b]) > worth(w, a, w.share[a]);
        }

        int house(int h, int what) {
            needHouse(h);
            what(what, 8);
            if (what < 3) {
                return told.houses.get(h)[what];
            }
            int envy = 0;
            for (int o = 0; o < houses(); o++) {
                envy |= envies(h, o) ? 1 << o : 0;
            }
            return new int[] {w.lot[h], w.share[h], w.store[h], w.order.indexOf(h), envy}[what - 3];
        }

        int plot(int p, int what) {
            needPlot(p);
            what(what, 5);
            if (what < 3) {
                return told.plots.get(p)[what];
            }
            if (what == 3) {
                return walk(w.marketX, w.marketY, p);
            }
            for (int h = 0; h < houses(); h++) {
                if (w.share[h] == p) {
                    return h;
                }
            }
            return -1;
        }

        void act() {
            acts.add(w.copy());
            if (acts.size() > 40) {
                acts.remove(0);
            }
        }

        int refuse(int which) {
            status[which]++;
            return -1;
        }

        int seed;

        int draw(int n) {
            seed = seed * 1103515245 + 12345;
            return (seed >>> 16) % 32768 % n;
        }

        int lots(int s) {
            act();
            seed = s;
            for (int h = 0; h < houses(); h++) {
                w.lot[h] = draw(2);
            }
            take(w, -1);
            return lotBits(w);
        }

        int turn(int h) {
            needHouse(h);
            act();
            w.lot[h] = 1 - w.lot[h];
            w.curses++;
            take(w, -1);
            return w.lot[h];
        }

        int order(int h, int place) {
            needHouse(h);
            if (place < 0 || place >= houses()) {
                return refuse(1);
            }
            act();
            int was = w.order.indexOf(h);
            w.order.remove(was);
            w.order.add(place, h);
            take(w, -1);
            return was;
        }

        int exchange(int h, int o) {
            needHouse(h);
            needHouse(o);
            if (h == o) {
                refuse(1);
                return 0;
            }
            act();
            int s = w.share[h];
            w.share[h] = w.share[o];
            w.share[o] = s;
            return 1;
        }

        int market(int x, int y) {
            if (x < 0 || y < 0 || x > 20 || y > 20) {
                return refuse(1);
            }
            act();
            int was = 100 * w.marketY + w.marketX;
            w.marketX = x;
            w.marketY = y;
            take(w, -1);
            return was;
        }

        int years(int many) {
            if (many < 1 || many > 30 || w.year + many > 999) {
                return refuse(1);
            }
            act();
            for (int i = 0; i < many; i++) {
                year(w);
            }
            return w.year;
        }

        int undo() {
            if (acts.isEmpty()) {
                return -1;
            }
            w = acts.remove(acts.size() - 1).copy();
            return acts.size();
        }

        int restore() {
            if (imageWorld == null) {
                return 0;
            }
            w = imageWorld.copy();
            acts = new ArrayList<>();
            for (World v : imageActs) {
                acts.add(v.copy());
            }
            seen = new ArrayList<>(imageSeen);
            status = imageStatus.clone();
            return 1;
        }

        /** Every simple path is tried. */
        int ring() {
            int best = 99;
            for (int h = 0; h < houses(); h++) {
                best = Math.min(best, path(h, h, 1 << h, 1));
            }
            return best == 99 ? -1 : best;
        }

        int path(int first, int at, int on, int many) {
            int best = 99;
            for (int o = 0; o < houses(); o++) {
                if (!envies(at, o)) {
                    continue;
                }
                if (o == first) {
                    best = Math.min(best, many);
                } else if ((on >> o & 1) == 0) {
                    best = Math.min(best, path(first, o, on | 1 << o, many + 1));
                }
            }
            return best;
        }

        long bestSum;
        int[] bestRow;
        long fairestLeast;

        /** Rows are tried in their order, so that the first of like ones stays. */
        void ways(int h, int[] row, int used, long sum, long least) {
            if (h == houses()) {
                if (Integer.bitCount(used) != Math.min(houses(), plots())) {
                    return;
                }
                if (bestRow == null || sum > bestSum) {
                    bestSum = sum;
                    bestRow = row.clone();
                }
                fairestLeast = Math.max(fairestLeast, least);
                return;
            }
            for (int p = 0; p < plots(); p++) {
                if ((used >> p & 1) == 0) {
                    row[h] = p;
                    long x = worths[h][p];
                    ways(h + 1, row, used | 1 << p, sum + x, Math.min(least, x));
                }
            }
            if (Integer.bitCount(used) + houses() - h - 1 >= Math.min(houses(), plots())) {
                row[h] = -1;
                ways(h + 1, row, used, sum, least);
            }
        }

        int[][] worths;

        void allWays() {
            bestRow = null;
            bestSum = 0;
            fairestLeast = Long.MIN_VALUE;
            worths = new int[houses()][plots()];
            for (int h = 0; h < houses(); h++) {
                for (int p = 0; p < plots(); p++) {
                    worths[h][p] = worth(w, h, p);
                }
            }
            ways(0, new int[houses()], 0, 0, Long.MAX_VALUE);
        }

        long best(int h) {
            if (h != -1) {
                needHouse(h);
            }
            allWays();
            return h == -1 ? bestSum : bestRow[h];
        }

        int fairest(int what) {
            what(what, 2);
            if (houses() == 0 || plots() < houses()) {
                return 0;
            }
            allWays();
            return what == 0 ? 1 : (int) fairestLeast;
        }

        int strength(World v, int h) {
            return told.houses.get(h)[v.lot[h]];
        }

        int tribes() {
            int ways = 1;
            for (int h = 0; h < houses(); h++) {
                ways *= 3;
            }
            int best = Integer.MAX_VALUE;
            for (int way = 0; way < ways; way++) {
                int[] s = new int[3];
                int rest = way;
                for (int h = 0; h < houses(); h++) {
                    s[rest % 3] += strength(w, h);
                    rest /= 3;
                }
                java.util.Arrays.sort(s);
                best = Math.min(best, s[2] - s[0]);
            }
            return best;
        }

        int middle() {
            int best = 0;
            int least = Integer.MAX_VALUE;
            for (int y = 0; y <= 20; y++) {
                for (int x = 0; x <= 20; x++) {
                    int sum = 0;
                    for (int p : w.share) {
                        sum += p == -1 ? 0 : walk(x, y, p);
                    }
                    if (sum < least) {
                        least = sum;
                        best = 100 * y + x;
                    }
                }
            }
            return best;
        }

        int starves(int h) {
            needHouse(h);
            for (int y = 0; y <= 50; y++) {
                if (after(y).gone[h]) {
                    return y;
                }
            }
            return -1;
        }

        int holdsOut() {
            for (int y = 1; y <= 50; y++) {
                if (bits(after(y).gone) != bits(w.gone)) {
                    return y;
                }
            }
            return -1;
        }

        int lotsFor(int strength, int house) {
            if (house != -1) {
                needHouse(house);
            }
            within(strength, 0, 99);
            int many = 0;
            for (int m = 0; m < 1 << houses(); m++) {
                int sum = 0;
                for (int h = 0; h < houses(); h++) {
                    sum += told.houses.get(h)[m >> h & 1];
                }
                if (sum >= strength && (house == -1 || (m >> house & 1) == 1)) {
                    many++;
                }
            }
            return many;
        }

        static int sum(int[] a) {
            int s = 0;
            for (int x : a) {
                s += x;
            }
            return s;
        }

        int change(int years) {
            within(years, 1, 20);
            int best = -1;
            int most = sum(after(years).store);
            World keep = w;
            for (int h = 0; h < houses(); h++) {
                w = keep.copy();
                w.lot[h] = 1 - w.lot[h];
                take(w, -1);
                int s = sum(after(years).store);
                if (s > most) {
                    most = s;
                    best = h;
                }
            }
            w = keep;
            return best;
        }

        int envied(int what) {
            what(what, 2);
            int best = -1;
            int most = 0;
            for (int o = 0; o < houses(); o++) {
                int n = 0;
                for (int h = 0; h < houses(); h++) {
                    n += envies(h, o) ? 1 : 0;
                }
                if (n > most) {
                    most = n;
                    best = o;
                }
            }
            return what == 0 ? best : most;
        }

        int without(int h, int o) {
            needHouse(h);
            needHouse(o);
            if (h == o) {
                throw new IllegalArgumentException();
            }
            World v = w.copy();
            v.order.remove(Integer.valueOf(h));
            take(v, -1);
            return v.share[o];
        }

        int lastPlace(int h) {
            needHouse(h);
            int last = -1;
            for (int place = 0; place < houses(); place++) {
                World v = w.copy();
                v.order.remove(Integer.valueOf(h));
                v.order.add(place, h);
                take(v, -1);
                boolean noLess = w.share[h] == -1
                    || v.share[h] != -1 && worth(w, h, v.share[h]) >= worth(w, h, w.share[h]);
                if (noLess) {
                    last = place;
                }
            }
            return last;
        }

        int bushels(int h, int years) {
            needHouse(h);
            within(years, 0, 50);
            int sum = 0;
            for (int y = 0; y < years; y++) {
                World v = after(y);
                sum += v.gone[h] ? 0 : crop(v, h, v.lot[h], v.share[h], v.year);
            }
            return sum;
        }

        int free() {
            int r = 0;
            for (int p = 0; p < plots(); p++) {
                r |= plot(p, 4) == -1 ? 1 << p : 0;
            }
            return r;
        }

        int richest(int years) {
            within(years, 0, 50);
            World v = after(years);
            int best = -1;
            for (int h = 0; h < houses(); h++) {
                if (best == -1 || v.store[h] > v.store[best]) {
                    best = h;
                }
            }
            return best;
        }

        int see(int h, int year, int harvest) {
            needHouse(h);
            if (seen.size() == 8 || year < 0 || year > 99 || harvest < 0 || harvest > 99) {
                return refuse(2);
            }
            seen.add(new Seen(h, year, harvest));
            return seen.size();
        }

        int brothers() {
            int r = 0;
            for (int h = 0; h < houses(); h++) {
                boolean other = true;
                boolean same = true;
                for (Seen s : seen) {
                    if (s.house == h) {
                        other &= crop(w, h, 1 - w.lot[h], w.share[h], s.year) == s.harvest;
                        same &= crop(w, h, w.lot[h], w.share[h], s.year) == s.harvest;
                    }
                }
                r += (other ? 1 << h : 0) + (same ? 256 << h : 0);
            }
            return r;
        }

        int look(int h, int what) {
            needHouse(h);
            what(what, 2);
            int best = -1;
            int most = 0;
            for (int y = 0; y < 100; y++) {
                int d = crop(w, h, 0, w.share[h], y) - crop(w, h, 1, w.share[h], y);
                if (Math.abs(d) > most) {
                    most = Math.abs(d);
                    best = y;
                }
            }
            return what == 0 ? best : most;
        }

        long[] gains(int a, int b, int p, int ga, int gb) {
            long sa = w.share[a] == -1 ? 0 : worth(w, a, w.share[a]);
            long sb = w.share[b] == -1 ? 0 : worth(w, b, w.share[b]);
            long pa = worth(w, a, p);
            long pb = worth(w, b, p);
            int d = strength(w, a) - strength(w, b);
            if (ga == 1 && gb == 1) {
                return new long[] {d > 0 ? pa - 5 : 0, d < 0 ? pb - 5 : 0};
            }
            return new long[] {ga == 1 ? pa : sa, gb == 1 ? pb : sb};
        }

        int game(int a, int b, int p, int what) {
            needHouse(a);
            needHouse(b);
            needPlot(p);
            what(what, 2);
            if (a == b) {
                throw new IllegalArgumentException();
            }
            int n = 0;
            int first = -1;
            for (int ga = 0; ga < 2; ga++) {
                for (int gb = 0; gb < 2; gb++) {
                    long[] now = gains(a, b, p, ga, gb);
                    if (gains(a, b, p, 1 - ga, gb)[0] > now[0] || gains(a, b, p, ga, 1 - gb)[1] > now[1]) {
                        continue;
                    }
                    n++;
                    if (first == -1) {
                        first = 10 * ga + gb;
                    }
                }
            }
            return what == 0 ? n : first;
        }

        int founders(int s, int n, int what) {
            what(what, 3);
            within(n, 0, 30);
            seed = s;
            int[] r = new int[3];
            for (int i = 0; i < n; i++) {
                World v = w.copy();
                for (int h = 0; h < houses(); h++) {
                    v.lot[h] = draw(2);
                    v.store[h] = 0;
                    v.gone[h] = false;
                }
                v.year = 0;
                take(v, -1);
                for (int y = 0; y < 5; y++) {
                    year(v);
                }
                r[0] += Integer.bitCount(bits(v.gone));
                for (int x : v.store) {
                    r[1] = Math.max(r[1], x);
                }
                r[2] += bits(v.gone) == 0 ? 1 : 0;
            }
            return r[what];
        }
    }

    // ------------------------------------------------------------------ random runs

    static final class Run {
        static final String[] ASKS = {
            "count", "house", "plot", "worth", "harvest", "ring", "best", "fairest", "tribes", "middle", "then",
            "starves", "tithes", "holdsOut", "lotsFor", "change", "envied", "without", "lastPlace", "famine",
            "bushels", "free", "richest", "brothers", "look", "game", "founders", "fault"};
        static final String[] ACTS = {
            "lots", "turn", "order", "exchange", "market", "years", "undo", "see", "see", "turn", "order",
            "exchange", "forget", "image", "restore"};

        final int run;
        final Random r;
        final SonsLot x = new SonsLot();
        final Model m = new Model();
        final StringBuilder told = new StringBuilder();
        int calls = 0;

        Run(int run) {
            this.run = run;
            r = new Random(run * 7919L + 17);
        }

        int play() {
            int texts = 1 + r.nextInt(4);
            for (int t = 0; t < texts && calls < 420; t++) {
                tell(text());
                int many = r.nextInt(120);
                for (int i = 0; i < many && calls < 500; i++) {
                    step();
                }
            }
            return calls;
        }

        void tell(String text) {
            told.append("  text ").append(text.replace("\n", "\\n")).append('\n');
            int n = Math.min(700, text.length());
            String padded = text + "                    ";
            for (int i = 0; i < n; i += 20) {
                int[] a = new int[5];
                for (int k = 0; k < 20; k++) {
                    a[k / 4] = a[k / 4] << 8 | padded.charAt(i + k) & 255;
                }
                check("feed", a);
            }
            check("island", r.nextInt(12) == 0 ? m.tape.length() + r.nextInt(30) - 25 : Math.min(n, m.tape.length()));
            check("fault");
            check("count", 12);
            check("count", 13);
        }

        int pick(int n) {
            return r.nextInt(n);
        }

        /** Mostly a house there is. */
        int house() {
            return pick(12) == 0 ? pick(11) - 1 : pick(Math.max(1, m.houses()));
        }

        int plot() {
            return pick(12) == 0 ? pick(12) - 1 : pick(Math.max(1, m.plots()));
        }

        int upTo(int most) {
            switch (pick(12)) {
                case 0: return -1;
                case 1: return most + 1;
                case 2: return most;
                case 3: return 0;
                default: return pick(most + 1);
            }
        }

        int mostly(int n) {
            return pick(10) == 0 ? pick(n + 2) - 1 : pick(n);
        }

        void step() {
            String name = pick(5) < 2 ? ACTS[pick(ACTS.length)] : ASKS[pick(ASKS.length)];
            if (pick(150) == 0) {
                name = "feed";
            }
            if (name.equals("best") && m.houses() > 6 && pick(4) != 0) {
                return;
            }
            switch (name) {
                case "feed": check(name, r.nextInt(), r.nextInt(), r.nextInt(), r.nextInt(), r.nextInt()); break;
                case "count": check(name, mostly(16)); break;
                case "house": check(name, house(), mostly(8)); break;
                case "plot": check(name, plot(), mostly(5)); break;
                case "worth": check(name, house(), plot()); break;
                case "harvest": check(name, house(), plot(), upTo(999)); break;
                case "lots": check(name, r.nextInt()); break;
                case "order": check(name, house(), mostly(Math.max(1, m.houses()))); break;
                case "market": check(name, upTo(20), upTo(20)); break;
                case "years": check(name, pick(3) == 0 ? 30 : upTo(5)); break;
                case "best": check(name, pick(2) == 0 ? -1 : house()); break;
                case "fairest": case "envied": check(name, mostly(2)); break;
                case "then": case "bushels": check(name, house(), upTo(50)); break;
                case "starves": case "lastPlace": case "turn": check(name, house()); break;
                case "tithes": case "famine": case "richest": check(name, upTo(50)); break;
                case "lotsFor": check(name, pick(3) == 0 ? upTo(99) : upTo(40), pick(2) == 0 ? -1 : house()); break;
                case "change": check(name, upTo(20)); break;
                case "exchange": case "without": check(name, house(), house()); break;
                case "see": see(); break;
                case "look": check(name, house(), mostly(2)); break;
                case "game": check(name, house(), house(), plot(), mostly(2)); break;
                case "founders": check(name, r.nextInt(), upTo(30), mostly(3)); break;
                default: check(name); break;
            }
        }

        /** Mostly what one of both brothers would harvest, so that brothers() has something to tell. */
        void see() {
            int h = house();
            int year = upTo(99);
            int harvest = upTo(99);
            if (h >= 0 && h < m.houses() && year >= 0 && pick(3) != 0) {
                harvest = m.crop(m.w, h, pick(2), m.w.share[h], year);
            }
            check("see", h, year, harvest);
        }

        void check(String name, int... a) {
            calls++;
            long due = 0;
            String dueThrown = "";
            try {
                due = m.call(name, a);
            } catch (NoSuchElementException e) {
                dueThrown = "NoSuchElementException";
            } catch (IllegalArgumentException e) {
                dueThrown = "IllegalArgumentException";
            }
            long got = 0;
            String thrown = "";
            try {
                got = real(name, a);
            } catch (RuntimeException e) {
                thrown = e.getClass().getSimpleName();
            }
            told.append("  ").append(name).append(java.util.Arrays.toString(a)).append(" due ").append(due)
                .append(dueThrown).append('\n');
            if (got != due || !thrown.equals(dueThrown)) {
                wrong++;
                if (wrong < 4) {
                    System.out.println("run " + run + ": " + name + java.util.Arrays.toString(a) + " answered " + got
                        + thrown + ", due is " + due + dueThrown + "\n" + told);
                }
            }
        }

        long real(String name, int[] a) {
            switch (name) {
                case "feed": return x.feed(a[0], a[1], a[2], a[3], a[4]);
                case "island": return x.island(a[0]);
                case "fault": return x.fault();
                case "count": return x.count(a[0]);
                case "house": return x.house(a[0], a[1]);
                case "plot": return x.plot(a[0], a[1]);
                case "worth": return x.worth(a[0], a[1]);
                case "harvest": return x.harvest(a[0], a[1], a[2]);
                case "lots": return x.lots(a[0]);
                case "turn": return x.turn(a[0]);
                case "order": return x.order(a[0], a[1]);
                case "exchange": return x.exchange(a[0], a[1]) ? 1 : 0;
                case "market": return x.market(a[0], a[1]);
                case "years": return x.years(a[0]);
                case "undo": return x.undo();
                case "ring": return x.ring();
                case "best": return x.best(a[0]);
                case "fairest": return x.fairest(a[0]);
                case "tribes": return x.tribes();
                case "middle": return x.middle();
                case "then": return x.then(a[0], a[1]);
                case "starves": return x.starves(a[0]);
                case "tithes": return x.tithes(a[0]);
                case "holdsOut": return x.holdsOut();
                case "lotsFor": return x.lotsFor(a[0], a[1]);
                case "change": return x.change(a[0]);
                case "envied": return x.envied(a[0]);
                case "without": return x.without(a[0], a[1]);
                case "lastPlace": return x.lastPlace(a[0]);
                case "famine": return x.famine(a[0]);
                case "bushels": return x.bushels(a[0], a[1]);
                case "free": return x.free();
                case "richest": return x.richest(a[0]);
                case "see": return x.see(a[0], a[1], a[2]);
                case "brothers": return x.brothers();
                case "look": return x.look(a[0], a[1]);
                case "forget": x.forget(); return 0;
                case "game": return x.game(a[0], a[1], a[2], a[3]);
                case "founders": return x.founders(a[0], a[1], a[2]);
                case "image": x.image(); return 0;
                case "restore": return x.restore() ? 1 : 0;
                default: throw new AssertionError(name);
            }
        }

        // -------------------------------------------------------------- random texts

        String text() {
            List<String> lines = new ArrayList<>();
            int houses = pick(20) == 0 ? 9 : pick(9);
            int plots = pick(20) == 0 ? 10 : pick(10);
            for (int h = 0; h < houses; h++) {
                lines.add("house " + pick(10) + " " + pick(10) + " " + pick(3) + ";");
            }
            int near = pick(3) == 0 ? 5 : 21;
            for (int p = 0; p < plots; p++) {
                lines.add("plot " + (pick(40) == 0 ? 3 : (pick(near) + p * (near == 5 ? 0 : 1)) % 21) + " "
                    + pick(near) + " " + pick(10) + ";");
            }
            if (pick(2) == 0) {
                lines.add("market " + pick(21) + " " + pick(21) + ";");
            }
            if (pick(2) == 0) {
                StringBuilder b = new StringBuilder("rain");
                for (int i = pick(15) == 0 ? 11 : 1 + pick(10); i > 0; i--) {
                    b.append(' ').append(pick(10));
                }
                lines.add(b + ";");
            }
            if (pick(2) == 0) {
                lines.add("eats " + pick(21) + ";");
            }
            if (pick(3) != 0) {
                lines.add("worth " + expr(pick(5), false) + ";");
            }
            if (pick(3) != 0) {
                lines.add("yields " + expr(pick(5), true) + ";");
            }
            java.util.Collections.shuffle(lines, r);
            String text = String.join(pick(2) == 0 ? "" : pick(2) == 0 ? "\n" : " ", lines);
            return pick(3) == 0 ? spoil(text) : text;
        }

        String expr(int depth, boolean yields) {
            if (pick(60) == 0) {
                int many = 4 + pick(4);
                return "(".repeat(many) + part(0, yields) + ")".repeat(many);
            }
            switch (depth == 0 ? 0 : pick(9)) {
                case 1: return expr(depth - 1, yields) + "+" + part(depth - 1, yields);
                case 2: return part(depth - 1, yields) + "*" + part(depth - 1, yields);
                case 3: return part(depth - 1, yields) + " - " + part(depth - 1, yields);
                case 4: return part(depth - 1, yields) + "/" + part(depth - 1, yields);
                case 5: return "not ".repeat(1 + pick(pick(9) == 0 ? 7 : 3)) + expr(depth - 1, yields);
                case 6: return expr(depth - 1, yields) + (pick(2) == 0 ? " and " : " or ") + expr(depth - 1, yields);
                case 7: return part(depth - 1, yields) + (pick(2) == 0 ? "<" : "=") + part(depth - 1, yields);
                default: return part(depth, yields);
            }
        }

        String part(int depth, boolean yields) {
            String[] names = {"strength", "tribe", "water", "walk", "younger", "rain", "year"};
            switch (pick(8)) {
                case 0: case 1: return "" + pick(pick(3) == 0 ? 10000 : 12);
                case 2: return depth > 0 ? "(" + expr(depth - 1, yields) + ")" : "water";
                default: return names[pick(yields || pick(60) == 0 ? 7 : 5)];
            }
        }

        String spoil(String text) {
            String[] bits = {" ", ";", "(", ")", "+", "-", "*", "/", "<", "=", "0", "99", "12345", "house", "plot",
                "market", "rain", "eats", "worth", "yields", " or ", " and ", " not ", "strength", "year", "x", "A",
                "\n", "\t", "\u00e9", "not not not not not not not ", "((((((", "plot 3 3 3;", "market 1 1;", "rain 1;"};
            StringBuilder b = new StringBuilder(text);
            for (int i = 1 + pick(2); i > 0; i--) {
                int at = pick(b.length() + 1);
                switch (pick(4)) {
                    case 0: b.insert(at, bits[pick(bits.length)]); break;
                    case 1: b.delete(at, Math.min(b.length(), at + 1 + pick(6))); break;
                    case 2: b.replace(at, Math.min(b.length(), at + 1), bits[pick(bits.length)]); break;
                    default: b.setLength(pick(3) == 0 ? at : b.length()); break;
                }
            }
            return b.toString();
        }
    }
}
