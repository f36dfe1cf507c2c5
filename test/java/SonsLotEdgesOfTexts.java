import java.util.ArrayList;
import java.util.List;

/** Each sentence about the tape, an island's text, its faults and its rules that names a boundary case. */
public final class SonsLotEdgesOfTexts extends Due {
    private static final int BLANK = 0x20202020;

    public static void main(String[] args) {
        noHouses();
        namesNone();
        feedHighestFirst();
        feedMoreThan700();
        firstBytesOfTheTape();
        tapeIsEmptyThen();
        allAnew();
        allStaysButStatus();
        nothingOfAFaultyTextStays();
        textAfterText();
        actsAndImageAreGone();
        tapeHasNotSoMany();
        placeOfTheLatestFault();

        eightHouses();
        strengths();
        tribesOfHouses();
        ninePlots();
        plotNumbers();
        noTwoInOnePlace();
        marketWithout();
        rainNumbers();
        rainByYear();
        eatsNumbers();
        textOf700();

        words();
        wordsLetterByLetter();
        wordsInPlacesOfOthers();
        numbers();
        signs();
        blanks();
        linesAnyNumberOfTimes();
        linesThatEndTooSoon();
        tokensThatCantStand();
        oneTokenMore();

        firstAlongTheText();
        leastOfOneToken();
        textsLength();
        fiveDigits();
        notAsTold();
        exprWithinSixOthers();
        seventhNot();
        wordsThatAreNoValue();
        placeOfOneToldAhead();
        toldTwice();

        fromTheLeft();
        howTightly();
        intsThatWrap();
        cutDownToZero();
        byZero();
        oneOrZero();
        oneTestAlone();
        valuesOfWorth();
        valuesOfYields();
        longRules();
        end();
    }

    // ---- a new object, the tape

    private static void noHouses() {
        sentence(1, "No HOUSES.");
        SonsLot x = new SonsLot();
        counts(x, 0, 0, 1010, 4, 0, 3, 0, 0, 0, 0, 0, 0, 0, 0, 0, 0);
        for (int h = -1; h < 9; h++) {
            int house = h;
            none("house " + h, () -> x.house(house, 0));
            none("plot " + h, () -> x.plot(house, 0));
            none("turn " + h, () -> x.turn(house));
            none("starves " + h, () -> x.starves(house));
        }
        due("fault", x.fault(), NONE);
        due("ring", x.ring(), NONE);
        due("best", x.best(NONE), 0);
        due("fairest", x.fairest(0), 0);
        due("fairest", x.fairest(1), 0);
        due("tribes", x.tribes(), 0);
        due("middle", x.middle(), 0);
        due("tithes", x.tithes(50), 0);
        due("holdsOut", x.holdsOut(), NONE);
        due("lotsFor 0: the one row without a lot", x.lotsFor(0, NONE), 1);
        due("lotsFor 1", x.lotsFor(1, NONE), 0);
        due("change", x.change(20), NONE);
        due("envied", x.envied(0), NONE);
        due("envied by", x.envied(1), 0);
        due("famine", x.famine(50), 0);
        due("free", x.free(), 0);
        due("richest", x.richest(50), NONE);
        due("brothers", x.brothers(), 0);
        due("founders", x.founders(1, 30, 0), 0);
        due("founders' most", x.founders(1, 30, 1), 0);
        due("nobody gone", x.founders(1, 30, 2), 30);
        due("undo", x.undo(), NONE);
        due("restore", x.restore(), false);
        due("lots", x.lots(-1), 0);
        due("market", x.market(20, 0), 1010);
        due("years", x.years(30), 30);
        x.forget();
        x.image();
        due("restore", x.restore(), true);
        counts(x, 0, 0, 20, 4, 30, 3, 0, 0, 0, 0, 3, 0, 0, 0, 0, 0);
    }

    private static void namesNone() {
        sentence(1, "`NONE = -1`: There is none.");
        due("NONE", SonsLot.NONE, -1);
    }

    private static void feedHighestFirst() {
        sentence(2, "Twenty bytes come behind the tape, of each number the highest first: how many it has");
        SonsLot x = new SonsLot();
        // "rain", " 1 2", " 3 4", " 5 6", " 7 8" and then " 9 0", ";eat", "s 19", ";", blanks
        due("feed", x.feed(0x7261696e, 0x20312032, 0x20332034, 0x20352036, 0x20372038), 20);
        due("feed", x.feed(0x20392030, 0x3b656174, 0x73203139, 0x3b202020, BLANK), 40);
        due("bytes", x.count(12), 40);
        due("island", x.island(40), 0);
        due("eats", x.count(3), 19);
        for (int year = 0; year < 10; year++) {
            due("rain of year " + year, x.count(5), (year + 1) % 10);
            x.years(1);
        }
        sentence(2, "Twenty bytes come behind the tape: bytes above 127 are no others than they are");
        for (int k = 0; k < 20; k++) {
            int[] n = {BLANK, BLANK, BLANK, BLANK, BLANK};
            n[k / 4] = n[k / 4] | 0xff << 24 - k % 4 * 8;
            SonsLot y = new SonsLot();
            y.feed(n[0], n[1], n[2], n[3], n[4]);
            due("island with byte " + k, y.island(20), 1);
            due("fault at byte " + k, y.fault(), k);
        }
    }

    private static void feedMoreThan700() {
        sentence(2, "NONE, and none come, if it would have more than 700");
        String text = THREE + " ".repeat(693 - THREE.length()) + "eats 7;";
        SonsLot x = new SonsLot();
        tape(x, text.substring(0, 680));
        due("bytes", x.count(12), 680);
        tape(x, text.substring(680));
        due("700 are not too many", x.count(12), 700);
        for (int i = 0; i < 3; i++) {
            due("feed", x.feed(0x3b3b3b3b, -1, -1, -1, -1), NONE);
            due("bytes", x.count(12), 700);
        }
        due("island of all that came", x.island(700), 0);
        due("eats", x.count(3), 7);
        due("houses", x.count(0), 3);
        due("feed anew", x.feed(BLANK, BLANK, BLANK, BLANK, BLANK), 20);
        due("a tape of 20 takes 34 times more", fedMore(busy()), 34);
    }

    /** How often twenty bytes more come till none do. */
    private static int fedMore(SonsLot x) {
        int times = 0;
        while (times < 100 && x.feed(BLANK, BLANK, BLANK, BLANK, BLANK) != NONE) {
            times++;
        }
        return times;
    }

    private static void firstBytesOfTheTape() {
        sentence(3, "The tape's first n bytes are an ISLAND");
        String text = "house 1 2 0;eats 12;";
        int[] kinds = {0, 1, 1, 1, 1, 1, 1, 1, 1, 1, 1, 1, 0, 1, 1, 1, 1, 1, 1, 1, 0};
        int[] places = {-1, 0, 0, 0, 0, 5, 6, 7, 8, 9, 10, 11, -1, 12, 12, 12, 16, 17, 18, 19, -1};
        for (int n = 0; n <= 20; n++) {
            SonsLot x = new SonsLot();
            tape(x, text);
            due("island(" + n + ")", x.island(n), kinds[n]);
            due("fault of the first " + n, x.fault(), places[n]);
            due("houses of the first " + n, x.count(0), n == 12 || n == 20 ? 1 : 0);
            due("eats of the first " + n, x.count(3), n == 20 ? 12 : 4);
        }
    }

    private static void tapeIsEmptyThen() {
        sentence(3, "(it is empty then)");
        SonsLot x = new SonsLot();
        tape(x, "eats 5;" + " ".repeat(60));
        due("island of a part", x.island(7), 0);
        due("bytes", x.count(12), 0);
        illegal("nothing is left", () -> x.island(1));
        tape(x, "x" + " ".repeat(60));
        due("island with a fault", x.island(1), 1);
        due("bytes", x.count(12), 0);
        due("feed", x.feed(BLANK, BLANK, BLANK, BLANK, BLANK), 20);
        due("island of nothing", x.island(0), 0);
        due("bytes", x.count(12), 0);
        due("island of the empty tape", x.island(0), 0);
        due("what came comes from the front", tell(x, "eats 6;"), 0);
        due("eats", x.count(3), 6);
    }

    private static void allAnew() {
        sentence(3, "The tape's first n bytes are an ISLAND, all anew");
        SonsLot x = of(houses(8) + plots(9) + "market 0 1;rain 1;eats 0;worth 7;yields 10;");
        x.lots(1);
        x.order(0, 7);
        x.years(3);
        x.market(4, 4);
        due("island", tell(x, THREE), 0);
        counts(x, 3, 3, 1010, 4, 0, 3, 0, 0, 0, 0, 0, 0, 0, 0, 0, 0);
        places(x, 0, 1, 2);
        stores(x, 0, 0, 0);
        shares(x, 1, 0, 2);
        due("worth", x.worth(2, 1), 10);
        due("harvest", x.harvest(2, 1, 0), 9);
        none("house 3", () -> x.house(3, 0));
        none("plot 3", () -> x.plot(3, 0));
        SonsLot gone = of("house 1 1 1;eats 9;");
        gone.years(1);
        due("gone", gone.count(6), 1);
        due("island", tell(gone, "house 1 1 1;"), 0);
        due("nobody is gone", gone.count(6), 0);
        due("island of nothing", gone.island(0), 0);
        counts(gone, 0, 0, 1010, 4, 0, 3, 0, 0, 0, 0, 0, 0, 0, 0, 0, 0);
    }

    private static void allStaysButStatus() {
        sentence(3, "or the FAULT (all stays, but STATUS)");
        textChangesNothing("x", 1);
        textChangesNothing("house 1 1 1;house", 1);
        textChangesNothing("house 9 9 2;plot 1 1 1;market 0 0;rain 9;eats 20;worth 1;yields 1;eats 21;", 5);
        textChangesNothing(houses(9), 2);
        textChangesNothing(plots(10), 2);
        textChangesNothing("worth foo;", 3);
        textChangesNothing("plot 1 1 1;plot 1 1 1;", 4);
        textChangesNothing("yields 1;worth (1;", 1);
        SonsLot x = of(THREE);
        for (int i = 1; i <= 4; i++) {
            tell(x, "x");
            counts(x, 3, 3, 1010, 4, 0, 3, 0, 0, 0, 0, 0, 0, 0, i, 0, 0);
        }
    }

    /** Tells one line of each kind, each unlike what is without it. */
    private static final String ALL_LINES =
        houses(7) + "house 2 3 2;plot 4 5 6;market 1 2;rain 8 9;eats 17;worth 70;yields 80;";

    private static void isBare(SonsLot x, int faults) {
        counts(x, 1, 1, 1010, 4, 0, 3, 0, 0, 0, 0, 0, 0, 0, faults, 0, 0);
        due("worth", x.worth(0, 0), 9 * 2 - 9);
        due("harvest", x.harvest(0, 0, 1), 12);
        due("rain of the next year", x.years(1), 1);
        due("rain of the next year", x.count(5), 3);
        due("elder", x.house(0, 0), 7);
        due("younger", x.house(0, 1), 8);
        due("water", x.plot(0, 2), 9);
    }

    private static void nothingOfAFaultyTextStays() {
        sentence(3, "or the FAULT (all stays ..): the next TEXT is read all anew");
        String bare = "house 7 8 1;plot 4 7 9;";
        for (String fault : new String[] {"x", "house 1 1 1;house", "plot 4 5", "eats 1", "worth 1", "rain 1 2", "market 1"}) {
            SonsLot x = new SonsLot();
            due("island with a fault", tell(x, ALL_LINES + fault) > 0, true);
            due("island", tell(x, bare), 0);
            isBare(x, 1);
        }
        SonsLot again = new SonsLot();
        due("island with a fault", tell(again, ALL_LINES + "x"), 1);
        due("the same without it", tell(again, ALL_LINES), 0);
        due("houses", again.count(0), 8);
        due("rain of the first year", again.count(5), 8);
        due("a fault within a rule", tell(again, "worth 1+2+(3"), 1);
        due("a rule", tell(again, "house 1 1 1;plot 0 0 0;worth 5;"), 0);
        due("worth", again.worth(0, 0), 5);
    }

    private static void textAfterText() {
        sentence(3, "an ISLAND, all anew: as often as one is told");
        SonsLot x = new SonsLot();
        for (int i = 0; i < 3; i++) {
            due("island", tell(x, ALL_LINES), 0);
            counts(x, 8, 1, 201, 17, 0, 8, 0, 0, 0, 0, 0, 0, 0, i, 0, 0);
            due("worth", x.worth(7, 0), 70);
            due("harvest", x.harvest(7, 0, 0), 80);
            due("island", tell(x, "house 7 8 1;plot 4 7 9;"), 0);
            isBare(x, i);
            due("island with a fault", tell(x, "plot 4 7 9;plot"), 1);
        }
        due("island", tell(x, ALL_LINES), 0);
        due("island", tell(x, ALL_LINES), 0);
        due("island", x.island(0), 0);
        counts(x, 0, 0, 1010, 4, 0, 3, 0, 0, 0, 0, 0, 0, 0, 3, 0, 0);
    }

    private static void actsAndImageAreGone() {
        sentence(3, "SHARES are TAKEN; ACTS, what is SEEN, CURSES, the image are gone");
        SonsLot x = busy();
        due("acts", x.count(10), 5);
        due("island", x.island(12), 0);
        due("share without plots", x.house(0, 4), NONE);
        due("acts", x.count(10), 0);
        due("seen", x.count(11), 0);
        due("curses", x.count(8), 0);
        due("undo", x.undo(), NONE);
        due("brothers: nothing is seen", x.brothers(), 0x101);
        due("restore", x.restore(), false);
        due("seen", x.see(0, 0, 0), 1);
        due("STATUS is not among them", x.count(13), 1);
        due("STATUS is not among them", x.count(14), 1);
        due("STATUS is not among them", x.count(15), 1);
        SonsLot taken = of("house 1 1 1;house 1 1 1;house 1 1 1;plot 10 9 1;plot 10 10 1;");
        shares(taken, 1, 0, NONE);
    }

    private static void tapeHasNotSoMany() {
        sentence(3, "IllegalArgumentException: the tape has not so many, n below 0 (nothing changes)");
        notLegal("island(21) of 20", x -> x.island(21));
        notLegal("island(-1)", x -> x.island(-1));
        notLegal("island at the most", x -> x.island(MOST));
        notLegal("island at the least", x -> x.island(LEAST));
        SonsLot x = new SonsLot();
        illegal("island(1) of none", () -> x.island(1));
        tape(x, " ".repeat(700));
        illegal("island(701) of 700", () -> x.island(701));
        due("island(700) of 700", x.island(700), 0);
    }

    private static void placeOfTheLatestFault() {
        sentence(4, "The place of the latest island()'s FAULT; NONE without.");
        SonsLot x = new SonsLot();
        due("no island() yet", x.fault(), NONE);
        due("island", tell(x, " x"), 1);
        due("fault", x.fault(), 1);
        due("island", tell(x, "eats 1"), 1);
        due("the latest", x.fault(), 6);
        illegal("an island() that throws is none", () -> x.island(1));
        due("fault", x.fault(), 6);
        x.image();
        due("island", tell(x, "x"), 1);
        due("fault", x.fault(), 0);
        x.restore();
        due("an image does not keep it", x.fault(), 0);
        due("island", tell(x, "eats 1;"), 0);
        due("without", x.fault(), NONE);
        due("island", tell(x, " ".repeat(699) + "x"), 1);
        due("the last byte", x.fault(), 699);
    }

    // ---- what a text may tell

    private static void eightHouses() {
        sentence(3, "HOUSES 0, 1 .. (at most 8) .. FAULT 2: the first TOKEN of the 9th HOUSE");
        for (int many = 0; many <= 8; many++) {
            SonsLot x = of(houses(many));
            due("houses", x.count(0), many);
            int house = many;
            none("house " + many, () -> x.house(house, 0));
        }
        fault(houses(9), 2, 96);
        fault(houses(8) + "  house", 2, 98);
        fault(houses(8) + "house x", 2, 96);
        fault(houses(8) + "housex", 1, 96);
        fault(houses(8) + "eats 1;house 1 1 1;", 2, 103);
    }

    private static void strengths() {
        sentence(3, "STRENGTH of the ELDER, of the YOUNGER (0 to 9)");
        SonsLot x = of("house 0 9 0;house 9 0 1;");
        due("elder", x.house(0, 0), 0);
        due("younger", x.house(0, 1), 9);
        due("elder", x.house(1, 0), 9);
        due("younger", x.house(1, 1), 0);
        fault("house 10 0 0;", 2, 6);
        fault("house 0 10 0;", 2, 8);
        fault("house 9999 0 0;", 2, 6);
        fault("house 0 9999 0;", 2, 8);
        sentence(6, "A LOT of each: 0 the ELDER goes, 1 the YOUNGER (0 at first)");
        due("lot", x.house(0, 3), 0);
        due("lot", x.house(1, 3), 0);
        due("lots", x.count(9), 0);
    }

    private static void tribesOfHouses() {
        sentence(3, "a TRIBE (0 to 2)");
        SonsLot x = of("house 1 1 0;house 1 1 1;house 1 1 2;");
        for (int h = 0; h < 3; h++) {
            due("tribe", x.house(h, 2), h);
        }
        fault("house 1 1 3;", 2, 10);
        fault("house 1 1 10;", 2, 10);
    }

    private static void ninePlots() {
        sentence(3, "PLOTS 0, 1 .. (at most 9) .. FAULT 2: the first TOKEN of the 10th PLOT");
        for (int many = 0; many <= 9; many++) {
            SonsLot x = of(plots(many));
            due("plots", x.count(1), many);
            int plot = many;
            none("plot " + many, () -> x.plot(plot, 0));
        }
        fault(plots(10), 2, 99);
        fault(plots(9) + " plot", 2, 100);
        fault(plots(9) + "plot 0 0 0;", 2, 99);
        fault(plots(9) + "plots", 1, 99);
    }

    private static void plotNumbers() {
        sentence(3, "PLOTS: X, Y (0 to 20), WATER (0 to 9)");
        SonsLot x = of("plot 0 20 9;plot 20 0 0;");
        int[][] told = {{0, 20, 9}, {20, 0, 0}};
        for (int p = 0; p < 2; p++) {
            for (int what = 0; what < 3; what++) {
                due("plot " + p + " " + what, x.plot(p, what), told[p][what]);
            }
        }
        fault("plot 21 0 0;", 2, 5);
        fault("plot 0 21 0;", 2, 7);
        fault("plot 0 0 10;", 2, 9);
        fault("plot 9999 0 0;", 2, 5);
    }

    private static void noTwoInOnePlace() {
        sentence(3, "no two in one place .. FAULT 4: the Y of a PLOT at the place of one told ahead");
        fault("plot 3 4 1;plot 3 4 1;", 4, 18);
        fault("plot 3 4 1;plot 4 3 1;plot 3 4 9;", 4, 29);
        fault(plots(8) + "plot 7 0 0;", 4, 95);
        fault(plots(8) + "plot 0 0 0;", 4, 95);
        fine("plot 3 4 1;plot 4 3 1;plot 3 3 1;plot 4 4 1;");
        fault("plot 3 4 1;plot 03 0004 1;", 4, 19);
        SonsLot x = of("plot 3 4 1;");
        due("one of the island that was", tell(x, "plot 3 4 2;"), 0);
        due("water", x.plot(0, 2), 2);
        fault("plot 3 4 1;plot 3 4", 4, 18);
        fault("plot 3 4 1;plot 3 x", 1, 18);
    }

    private static void marketWithout() {
        sentence(3, "MARKET: X, Y (10, 10 without)");
        due("without", of("").count(2), 1010);
        due("market", of("market 0 20;").count(2), 2000);
        due("market", of("market 20 0;").count(2), 20);
        fault("market 21 0;", 2, 7);
        fault("market 0 21;", 2, 9);
    }

    private static void rainNumbers() {
        sentence(3, "RAIN (1 to 10 numbers, 0 to 9 each) .. FAULT 2: the 11th number of RAIN");
        fault("rain;", 1, 4);
        fault("rain", 1, 4);
        due("one", of("rain 9;").count(5), 9);
        fine("rain 0 1 2 3 4 5 6 7 8 9;");
        fault("rain 0 1 2 3 4 5 6 7 8 9 0;", 2, 25);
        fault("rain 0 1 2 3 4 5 6 7 8 9 12345;", 2, 25);
        fault("rain 0 1 2 3 4 5 6 7 8 9 x;", 1, 25);
        fault("rain 10;", 2, 5);
        fault("rain 0 1 2 3 4 5 6 7 8 10;", 2, 23);
        fault("rain 0 1 2 3 4 5 6 7 8 9", 1, 24);
    }

    private static void rainByYear() {
        sentence(9, "that of YEAR y is the (y MOD how many)-th; 3 without");
        SonsLot ten = of("house 1 1 1;plot 0 0 0;yields rain;rain 9 8 7 6 5 4 3 2 1 0;");
        for (int year : new int[] {0, 1, 8, 9, 10, 19, 20, 99, 990, 999}) {
            due("of ten, year " + year, ten.harvest(0, 0, year), 9 - year % 10);
        }
        SonsLot three = of("house 1 1 1;plot 0 0 0;yields rain;rain 4 0 7;eats 0;");
        int[] due = {4, 0, 7, 4, 0, 7, 4};
        for (int year = 0; year < due.length; year++) {
            due("of three, year " + year, three.harvest(0, 0, year), due[year]);
            due("of three, this year", three.count(5), due[year]);
            three.years(1);
        }
        SonsLot one = of("house 1 1 1;plot 0 0 0;yields rain;rain 0;");
        due("of one", one.harvest(0, 0, 0), 0);
        due("of one", one.harvest(0, 0, 999), 0);
        SonsLot without = of("house 1 1 1;plot 0 0 0;yields rain;");
        due("without", without.harvest(0, 0, 0), 3);
        due("without", without.harvest(0, 0, 999), 3);
        due("without", without.count(5), 3);
    }

    private static void eatsNumbers() {
        sentence(3, "EATS (0 to 20; 4 without)");
        due("without", of("").count(3), 4);
        due("eats", of("eats 0;").count(3), 0);
        due("eats", of("eats 20;").count(3), 20);
        fault("eats 21;", 2, 5);
        SonsLot x = of("eats 9;");
        due("island", tell(x, "house 1 1 1;"), 0);
        due("without, anew", x.count(3), 4);
    }

    private static void textOf700() {
        sentence(3, "A TEXT of at most 700 bytes tells it");
        fine(" ".repeat(700));
        fine("\n".repeat(693) + "eats 1;");
        fault(" ".repeat(699) + "x", 1, 699);
        fault(" ".repeat(696) + "eats", 1, 700);
        fine("worth " + "1+".repeat(346) + "1;");
        fault("worth " + "1+".repeat(347), 1, 700);
        SonsLot x = of("house 1 1 1;plot 0 0 0; worth " + "1+".repeat(334) + "1;");
        due("a long sum", x.worth(0, 0), 335);
    }

    // ---- tokens and lines

    private static void words() {
        sentence(4, "words (a .. z, the longest row)");
        fault("housea 1 1 1;", 1, 0);
        fault("hous e 1 1 1;", 1, 0);
        fine("house1 1 1;plot1 1 1;eats1;rain1;market1 1;worth1;yields1;");
        fine("worth 1or 1and 1;");
        fine("worth not(1)or(1);");
        fault("worth notwater;", 3, 6);
        fault("worth 1 orwater;", 1, 8);
        fault("worth waterwater;", 3, 6);
        fault("worth wate;", 3, 6);
        fault("worth a;", 3, 6);
        fault("worth z;", 3, 6);
        fault("worth `;", 1, 6);
        fault("worth {;", 1, 6);
        fault("worth A;", 1, 6);
        fault("worth Z;", 1, 6);
        fault("worth Water;", 1, 6);
        fault("worth wAter;", 3, 6);
        fault("worth water{;", 1, 11);
        fault("worth water`;", 1, 11);
        fault("HOUSE 1 1 1;", 1, 0);
    }

    /** A word is what it is by each of its letters. */
    private static void wordsLetterByLetter() {
        sentence(4, "words: all in quotes is what stands there");
        String[] heads = {"house", "plot", "market", "rain", "eats", "worth", "yields"};
        String[] tails = {" 1 1 1;", " 1 1 1;", " 1 1;", " 1;", " 1;", " 1;", " 1;"};
        for (int i = 0; i < heads.length; i++) {
            fine(heads[i] + tails[i]);
            for (String other : others(heads[i])) {
                fault(other + tails[i], 1, 0);
            }
        }
        String[] values = {"strength", "tribe", "water", "walk", "younger", "rain", "year"};
        for (String value : values) {
            fine("yields " + value + ";");
            for (String other : others(value)) {
                fault("yields " + other + ";", 3, 7);
            }
        }
        for (String join : new String[] {"or", "and"}) {
            fine("worth 1 " + join + " 1;");
            for (String other : others(join)) {
                fault("worth 1 " + other + " 1;", 1, 8);
            }
        }
        for (String other : others("not")) {
            fault("worth " + other + " 1;", 3, 6);
        }
    }

    private static void wordsInPlacesOfOthers() {
        sentence(4, "FAULT 1: a TOKEN that can't stand there: a word that stands elsewhere");
        List<String> lines = List.of("house", "plot", "market", "rain", "eats", "worth", "yields");
        List<String> values = List.of("strength", "tribe", "water", "walk", "younger");
        List<String> joins = List.of("or", "and");
        List<String> words = new ArrayList<>(List.of("not", "year", "island", "elder"));
        words.addAll(lines);
        words.addAll(values);
        words.addAll(joins);
        for (String word : words) {
            int at = 8 + word.length();
            if (!lines.contains(word)) {
                fault(word + " 1;", 1, 0);
                fault(word + " 1 1;", 1, 0);
                fault(word + " 1 1 1;", 1, 0);
            }
            boolean joined = joins.contains(word);
            fault("worth 1 " + word + " 1;", joined ? 0 : 1, joined ? NONE : 8);
            boolean value = values.contains(word);
            boolean not = word.equals("not");
            fault("worth " + word + " 1;", not ? 0 : value ? 1 : 3, not ? NONE : value ? at - 1 : 6);
            fault("worth " + word + ";", not ? 1 : value ? 0 : 3, not ? 9 : value ? NONE : 6);
            fault("house 1 " + word + " 1;", 1, 8);
            fault("eats 1 " + word + ";", 1, 7);
            fault("rain 1 " + word + ";", 1, 7);
        }
    }

    /** The word with each letter in turn another one or left out, or with one more. */
    private static List<String> others(String word) {
        List<String> others = new ArrayList<>();
        for (int i = 0; i < word.length(); i++) {
            others.add(word.substring(0, i) + "x" + word.substring(i + 1));
            others.add(word.substring(0, i) + word.substring(i + 1));
        }
        others.add(word + "s");
        others.add("a" + word);
        return others;
    }

    private static void numbers() {
        sentence(4, "NUMBERS (1 to 4 digits)");
        fine("worth 0;");
        fine("worth 9999;");
        fine("worth 0000;");
        fault("worth 00000;", 2, 6);
        fault("worth 1:;", 1, 7);
        fault("worth 1.5;", 1, 7);
        fault("eats 1/;", 1, 6);
        fault("eats 1 2;", 1, 7);
        due("leading noughts", of("eats 0019;").count(3), 19);
    }

    private static void signs() {
        sentence(4, "signs ; ( ) + - * / < =");
        fine("worth (1+2-3)*4/5<6;yields 1=1;");
        for (char c : ">!,.:%&|^~[]{}\"'#$?@\\_`".toCharArray()) {
            fault("worth 1" + c + "1;", 1, 7);
            fault("" + c, 1, 0);
        }
        for (char c : ";()+-*/<=".toCharArray()) {
            fault("" + c, 1, 0);
        }
    }

    private static void blanks() {
        sentence(4, "blanks (32, 10) between them count for nothing");
        fine("\n \neats\n\n1 \n ; \n");
        for (int b = 0; b < 256; b++) {
            char c = (char) b;
            boolean blank = b == 32 || b == 10;
            fault("" + c, blank ? 0 : 1, blank ? NONE : 0);
            if (c < '0' || c > '9') {
                fault("eats 1" + c + ";", blank || c == ';' ? c == ';' ? 1 : 0 : 1, blank ? NONE : c == ';' ? 7 : 6);
            }
        }
        fault("eats 1 0;", 1, 7);
        fault("wor th 1;", 1, 0);
        fault("worth 1 < = 1;", 1, 10);
    }

    private static final String[] LINES = {"house 9 9 2 ;", "plot 1 2 3 ;", "market 1 2 ;", "rain 1 2 3 ;", "eats 1 ;",
        "worth ( 1 + water ) * 2 < 3 or not 1 and 1 = 1 - 4 / 2 ;", "yields rain ;"};

    private static void linesAnyNumberOfTimes() {
        sentence(3, "ISLAND: LINE*");
        fine("");
        fine("eats 1;");
        fine("eats 1;plot 1 1 1;house 1 1 1;plot 2 1 1;market 1 1;house 1 1 1;yields 1;rain 1;worth 1;");
        fault(";", 1, 0);
        fault("eats 1;;", 1, 7);
    }

    /** The text up to each of its tokens. */
    private static void linesThatEndTooSoon() {
        sentence(4, "FAULT 1: (the text's length where it ends too soon)");
        for (String line : LINES) {
            String[] tokens = line.split(" ");
            StringBuilder text = new StringBuilder();
            for (int k = 0; k + 1 < tokens.length; k++) {
                text.append(tokens[k]);
                fault(text.toString(), 1, text.length());
                fault(text + " \n ", 1, text.length() + 3);
                text.append(' ');
            }
            fine(text + ";");
        }
    }

    private static void tokensThatCantStand() {
        sentence(4, "FAULT 1: a TOKEN that can't stand there, or is none");
        for (String line : LINES) {
            String[] tokens = line.split(" ");
            StringBuilder text = new StringBuilder();
            for (int k = 0; k < tokens.length; k++) {
                fault(text + "# ;", 1, text.length());
                fault(text + "\u00e9;", 1, text.length());
                text.append(tokens[k]).append(' ');
            }
        }
        fault("house house 1 1;", 1, 6);
        fault("house 1 ( 1;", 1, 8);
        fault("house -1 1 1;", 1, 6);
        fault("house 1,1,1;", 1, 7);
        fault("eats water;", 1, 5);
        fault("eats (1);", 1, 5);
        fault("rain 1 water;", 1, 7);
        fault("rain 1 (2);", 1, 7);
        fault("worth + 1;", 1, 6);
        fault("worth 1 + + 1;", 1, 10);
        fault("worth 1 + ) 1;", 1, 10);
        fault("worth 1 (1);", 1, 8);
        fault("worth (1)(1);", 1, 9);
        fault("worth 1 water;", 1, 8);
        fault("worth water 1;", 1, 12);
        fault("worth 1 not 1;", 1, 8);
        fault("worth 1 house;", 1, 8);
        fault("worth = 1;", 1, 6);
        fault("worth;", 1, 5);
        fault("worth not;", 1, 9);
        fault("worth not);", 1, 9);
        fault("worth 1 or;", 1, 10);
        fault("worth 1 and;", 1, 11);
        fault("worth 1 <;", 1, 9);
        fault("worth ();", 1, 7);
        fault("worth 1;);", 1, 8);
        fault("12;", 1, 0);
        fault("water;", 1, 0);
        fault("year;", 1, 0);
        fault("not;", 1, 0);
    }

    private static void oneTokenMore() {
        sentence(4, "LINE: (..) ';'");
        fault("house 1 1 1 1;", 1, 12);
        fault("plot 1 1 1 1;", 1, 11);
        fault("market 1 1 1;", 1, 11);
        fault("eats 1 1;", 1, 7);
        fault("worth 1 1;", 1, 8);
        fault("yields 1);", 1, 8);
        fault("house 1 1 1 house 1 1 1;", 1, 12);
        fault("house 1 1 1) ;", 1, 11);
    }

    // ---- faults

    private static void firstAlongTheText() {
        sentence(4, "FAULTS, the first along the text, at a TOKEN's first byte");
        fault("eats 21;x", 2, 5);
        fault("x;eats 21;", 1, 0);
        fault("  house 10 x", 2, 8);
        fault("house x 10", 1, 6);
        fault("plot 1 1 1;plot 1 1 99;", 4, 18);
        fault("plot 1 1 1;plot 99 1 1;", 2, 16);
        fault("market 1 1;market 99 99;", 5, 11);
        fault("market 99 1;market 1 1;", 2, 7);
        fault("worth foo+12345;", 3, 6);
        fault("worth 12345+foo;", 2, 6);
        fault("worth water water foo;", 1, 12);
        fault("worth 1;eats 1;worth foo;", 5, 15);
        fault("rain 1 10;rain 1;", 2, 7);
        fault("worth (12345;", 2, 7);
        fault("yields year+foo#;", 3, 12);
    }

    private static void leastOfOneToken() {
        sentence(4, "of one TOKEN the least");
        // a number that is too long, where no number can stand
        fault("12345;", 1, 0);
        fault("house 1 1 1 12345;", 1, 12);
        fault("worth 1 12345;", 1, 8);
        fault("worth (1 12345);", 1, 9);
        fault("worth water 12345;", 1, 12);
        // a Y in the place of one told ahead that is too long
        fault("plot 1 1 1;plot 1 00001 1;", 2, 18);
        // words that are no value within too many others
        fault("worth ((((((foo))))));", 2, 12);
        fault("worth ((((((rain))))));", 2, 12);
        // words that are no value where no part can stand
        fault("worth 1 foo;", 1, 8);
        fault("eats foo;", 1, 5);
        // a second 'rain' where no line can begin
        fault("rain 1;eats rain", 1, 12);
        fault("market 1 1;house market", 1, 17);
        // the 9th house, where none can stand
        fault(houses(8) + "eats house", 1, 101);
    }

    private static void textsLength() {
        sentence(4, "FAULT 1: the text's length, blanks at its end with it");
        fault("house", 1, 5);
        fault("house  ", 1, 7);
        fault("worth 1 + \n", 1, 11);
        fault("worth (((((((", 2, 12);
        fault("worth ((((((", 1, 12);
        SonsLot x = new SonsLot();
        tape(x, "eats 12;eats");
        due("of the bytes that are read", x.island(7), 1);
        due("fault", x.fault(), 7);
    }

    private static void fiveDigits() {
        sentence(4, "FAULT 2: a NUMBER of 5 digits or more");
        String[] heads = {"house ", "house 1 ", "house 1 1 ", "plot ", "plot 1 ", "plot 1 1 ", "market ", "market 1 ",
            "rain ", "rain 1 ", "rain 1 2 3 4 5 6 7 8 9 ", "eats ", "worth ", "worth 1+", "worth (", "worth not ",
            "yields 1<", "yields 1 or "};
        for (String head : heads) {
            fault(head + "00000;", 2, head.length());
            fault(head + "12345;", 2, head.length());
            fault(head + "4294967297;", 2, head.length());
            fault(head + "9".repeat(300), 2, head.length());
        }
        fine("house 0000 0000 0000;plot 0000 0000 0000;market 0000 0000;rain 0000 0000;eats 0000;worth 0000;");
    }

    private static void notAsTold() {
        sentence(4, "FAULT 2: (not in an EXPR) not as told");
        String[] heads = {"house ", "house 1 ", "house 1 1 ", "plot ", "plot 1 ", "plot 1 1 ", "market ", "market 1 ",
            "rain ", "rain 1 2 3 ", "eats "};
        String[] tails = {" 1 1;", " 1;", ";", " 1 1;", " 1;", ";", " 1;", ";", ";", " 1;", ";"};
        int[] most = {9, 9, 2, 20, 20, 9, 20, 20, 9, 9, 20};
        for (int i = 0; i < heads.length; i++) {
            fine(heads[i] + "0" + tails[i]);
            fine(heads[i] + most[i] + tails[i]);
            fault(heads[i] + (most[i] + 1) + tails[i], 2, heads[i].length());
            fault(heads[i] + "9999" + tails[i], 2, heads[i].length());
        }
        fine("worth 21;yields 9999;");
    }

    private static void exprWithinSixOthers() {
        sentence(4, "FAULT 2: the first TOKEN of an EXPR within 6 others (a NUMBER, any word, a parenthesis)");
        for (String rule : new String[] {"worth ", "yields "}) {
            int at = rule.length() + 6;
            fine(rule + "(((((1)))));");
            fine(rule + "(((((1))))) + (((((1)))));");
            fine(rule + "(1)+(1)+(1)+(1)+(1)+(1)+(1)+(1);");
            fault(rule + "((((((1))))));", 2, at);
            fault(rule + "(((((((1)))))));", 2, at);
            fault(rule + "((((((12345))))));", 2, at);
            fault(rule + "((((((water))))));", 2, at);
            fault(rule + "((((((not 1))))));", 2, at);
            fault(rule + "((((((or))))));", 2, at);
            fault(rule + "((((((house))))));", 2, at);
            fault(rule + "((((((x", 2, at);
            fault(rule + "(((((()))))) ;", 1, at);
            fault(rule + "((((((+1))))));", 1, at);
            fault(rule + "((((((;", 1, at);
            fault(rule + "((((((#", 1, at);
            fault(rule + "((((((", 1, at);
            fault(rule + "(((((1+(1))))));", 2, at + 2);
            fault(rule + "not (not (not (not (not (not (1))))));", 2, at + 24);
        }
    }

    private static void seventhNot() {
        sentence(4, "FAULT 2: the seventh 'not' side by side");
        fine("worth not not not not not not 1;");
        fault("worth not not not not not not not 1;", 2, 30);
        fault("worth not not not not not not not not 1;", 2, 30);
        fault("worth not not not not not not not", 2, 30);
        fault("worth not not not not not not", 1, 29);
        fault("worth not not not not not not nots;", 3, 30);
        fine("worth not not not not not not (not not not not not not 1);");
        fault("worth not not not not not not (not not not not not not not 1);", 2, 55);
        fine("worth not not not not not not 1 and not not not not not not 1 or not not not not not not 1;");
        fault("worth 1 or not not not not not not\nnot 1;", 2, 35);
        SonsLot x = of("house 1 1 1;plot 0 0 0;worth not not not not not not 7;yields not not not not not 7;");
        due("six", x.worth(0, 0), 1);
        due("five", x.harvest(0, 0, 0), 0);
    }

    private static void wordsThatAreNoValue() {
        sentence(4, "FAULT 3: any word where a PART must stand that is no VALUE of this EXPR");
        String[] words = {"rain", "year", "house", "plot", "market", "eats", "worth", "yields", "or", "and", "x", "elder",
            "strengths", "wate"};
        for (String word : words) {
            fault("worth " + word + ";", 3, 6);
            fault("worth 1 or " + word + ";", 3, 11);
            fault("worth not " + word + ";", 3, 10);
            fault("worth 1*(" + word + ");", 3, 9);
            boolean value = word.equals("rain") || word.equals("year");
            fault("yields 1-" + word + ";", value ? 0 : 3, value ? NONE : 9);
        }
        fault("worth 1+not 1;", 3, 8);
        fault("worth 1*not 1;", 3, 8);
        fault("worth 1<not 1;", 3, 8);
        fault("worth 1=not 1;", 3, 8);
        fine("worth 1 or not 1;");
        fine("worth (not 1);");
        fine("yields strength+tribe+water+walk+younger+rain+year;");
        fine("worth strength+tribe+water+walk+younger;");
    }

    private static void placeOfOneToldAhead() {
        sentence(4, "FAULT 4: the Y of a PLOT at the place of one told ahead");
        for (int ahead = 0; ahead < 8; ahead++) {
            fault(plots(8) + "plot " + ahead + " 0 9;", 4, 95);
            fine(plots(8) + "plot " + ahead + " 1 9;");
        }
        fault("plot 20 20 1;plot 20 20 1;", 4, 21);
        fault("plot 0 0 1;plot 0 0 1;", 4, 18);
    }

    private static void toldTwice() {
        sentence(4, "FAULT 5: a second 'market', 'rain', 'eats', 'worth', 'yields'");
        String[] lines = {"market 10 10;", "rain 3;", "eats 4;", "worth 0;", "yields 0;"};
        for (String line : lines) {
            String word = line.substring(0, line.indexOf(' '));
            fault(line + line, 5, line.length());
            fault(line + "house 1 1 1;" + word, 5, line.length() + 12);
            fault(line + " " + word + " x", 5, line.length() + 1);
            SonsLot x = of(line);
            due("of the island that was", tell(x, line), 0);
        }
        fine("market 1 1;rain 1;eats 1;worth 1;yields 1;");
        due("without: 0 is told, too", of("house 1 1 1;plot 10 10 9;worth 0;").worth(0, 0), 0);
    }

    // ---- rules

    private static void rule(String expr, int worth) {
        SonsLot x = of("house 5 2 1;plot 3 4 6;market 1 1;worth " + expr + ";");
        due(expr, x.worth(0, 0), worth);
    }

    private static void fromTheLeft() {
        sentence(8, "From the left");
        rule("10-3-2", 5);
        rule("10-3+2", 9);
        rule("100/7/2", 7);
        rule("2*7/4", 3);
        rule("7/4*2", 2);
        rule("100/(7/2)", 33);
        rule("10-(3-2)", 9);
    }

    private static void howTightly() {
        sentence(8, "EXPR: AND ('or' AND)*. AND: NOT ('and' NOT)*. NOT: 'not' NOT | SUM ..");
        rule("1+2*3", 7);
        rule("(1+2)*3", 9);
        rule("2*3+1", 7);
        rule("8-6/2", 5);
        rule("1+1<3", 1);
        rule("1<1+1", 1);
        rule("3=1+2", 1);
        rule("not 0+1", 0);
        rule("not 1<0", 1);
        rule("not 2=2", 0);
        rule("(not 2)=0", 1);
        rule("1 or 0 and 0", 1);
        rule("0 and 0 or 1", 1);
        rule("(1 or 0) and 0", 0);
        rule("not 1 or 1", 1);
        rule("not (1 or 1)", 0);
        rule("not 0 and 0", 0);
        rule("not (0 and 0)", 1);
        rule("1 and 2<1", 0);
    }

    private static void intsThatWrap() {
        sentence(8, "ints that wrap");
        rule("9999*9999*9999", 9999 * 9999 * 9999);
        rule("128*4096*4096", LEAST);
        rule("128*4096*4096-1", MOST);
        rule("128*4096*4096-1+1", LEAST);
        rule("0-128*4096*4096", LEAST);
        rule("4096*4096*4096", 0);
        rule("128*4096*4096/(0-1)", LEAST);
        rule("128*4096*4096<0", 1);
        rule("128*4096*4096-1<128*4096*4096", 0);
    }

    private static void cutDownToZero() {
        sentence(8, "/ cut down to 0");
        rule("7/2", 3);
        rule("(0-7)/2", -3);
        rule("7/(0-2)", -3);
        rule("(0-7)/(0-2)", 3);
        rule("(0-1)/2", 0);
        rule("1/9999", 0);
    }

    private static void byZero() {
        sentence(8, "by 0 gives 0");
        rule("5/0", 0);
        rule("0/0", 0);
        rule("(0-5)/(3-3)", 0);
        rule("128*4096*4096/0", 0);
        rule("1+5/0", 1);
        rule("5/(5/0)", 0);
    }

    private static void oneOrZero() {
        sentence(8, "tests, not, and, or are 1 or 0 (what isn't 0 holds)");
        rule("1<2", 1);
        rule("2<2", 0);
        rule("3<2", 0);
        rule("2=2", 1);
        rule("2=3", 0);
        rule("0-1<0", 1);
        rule("not 0", 1);
        rule("not 1", 0);
        rule("not 7", 0);
        rule("not (0-1)", 0);
        rule("not not 7", 1);
        rule("7 and 9", 1);
        rule("7 and 0", 0);
        rule("0 and 7", 0);
        rule("0-7 and 0-9", 1);
        rule("2 and 4", 1);
        rule("7 or 0", 1);
        rule("0 or 7", 1);
        rule("0 or 0", 0);
        rule("0 or 0-1", 1);
        rule("5 or 9", 1);
    }

    private static void oneTestAlone() {
        sentence(4, "NOT: SUM [('<' | '=') SUM]");
        fault("worth 1<2<3;", 1, 9);
        fault("worth 1=2=3;", 1, 9);
        fault("worth 1<2=3;", 1, 9);
        fault("worth (1<2<3);", 1, 10);
        rule("(1<2)<3", 1);
        rule("1<2 and 2<3", 1);
    }

    private static void valuesOfWorth() {
        sentence(8, "VALUES: 'strength' (of who went), 'tribe', 'water', 'walk', 'younger' (1, if the YOUNGER went, else 0)");
        rule("strength", 5);
        rule("tribe", 1);
        rule("water", 6);
        rule("walk", 5);
        rule("younger", 0);
        SonsLot x = of("house 5 2 1;plot 3 4 6;worth strength*1000+walk*10+younger;");
        due("of the elder", x.worth(0, 0), 5130);
        x.turn(0);
        due("of the younger", x.worth(0, 0), 2131);
        x.market(3, 4);
        due("at the market", x.worth(0, 0), 2001);
        x.market(20, 20);
        due("from the far corner", x.worth(0, 0), 2331);
        x.market(0, 0);
        due("from the near corner", x.worth(0, 0), 2071);
        due("the longest walk", of("house 1 1 1;plot 0 20 0;market 20 0;worth walk;").worth(0, 0), 40);
    }

    private static void valuesOfYields() {
        sentence(9, "of YIELDS also 'rain', 'year'");
        SonsLot x = of("house 5 2 2;plot 3 4 6;rain 7 9;yields strength+tribe*10+younger*20;");
        due("of the elder", x.harvest(0, 0, 3), 25);
        x.turn(0);
        due("of the younger", x.harvest(0, 0, 3), 42);
        SonsLot y = of("house 5 2 2;plot 3 4 6;rain 7 9;yields rain*10+walk;");
        due("rain and walk", y.harvest(0, 0, 0), 83);
        due("rain and walk", y.harvest(0, 0, 1), 99);
        y.market(3, 4);
        due("rain and walk", y.harvest(0, 0, 1), 90);
        SonsLot z = of("house 5 2 2;plot 3 4 6;yields year-900;");
        due("year 999", z.harvest(0, 0, 999), 99);
        due("year 998", z.harvest(0, 0, 998), 98);
    }

    private static void longRules() {
        sentence(8, "EXPR within 5 others, all that can wait waiting");
        String waiting = "0 or 1 and 1<1+3-5*";
        rule((waiting + "(").repeat(5) + waiting + "0" + ")".repeat(5), 0);
        rule((waiting + "(").repeat(5) + waiting + "1" + ")".repeat(5), 1);
        rule((waiting + "(").repeat(4) + waiting + "0" + ")".repeat(4), 1);
        sentence(8, "EXPR: any number of times");
        rule("1" + " or 1".repeat(120), 1);
        rule("1" + " and 1".repeat(100), 1);
        rule("0" + "-1".repeat(300), -300);
        rule("3" + "*3".repeat(300), threes(301));
    }

    private static int threes(int many) {
        int power = 1;
        for (int i = 0; i < many; i++) {
            power *= 3;
        }
        return power;
    }
}
