/** Each promise of the document by itself; what is due is reckoned by hand. */
public final class SonsLotPromises extends Due {
    public static void main(String[] args) {
        newObject();
        feed();
        island();
        islandAllAnew();
        faultsOfLines();
        faultsOfNumbers();
        faultsOfRules();
        rules();
        count();
        house();
        plot();
        worth();
        harvest();
        lots();
        turn();
        order();
        exchange();
        market();
        years();
        storesAndTithes();
        undo();
        undoOfMany();
        ring();
        best();
        fairest();
        tribes();
        middle();
        then();
        starves();
        tithes();
        holdsOut();
        lotsFor();
        change();
        envied();
        without();
        lastPlace();
        famine();
        bushels();
        free();
        richest();
        see();
        brothers();
        look();
        forget();
        game();
        founders();
        image();
        restore();
        end();
    }

    // ---- the text

    private static void newObject() {
        promise(1);
        due("NONE", SonsLot.NONE, -1);
        SonsLot x = new SonsLot();
        int[] counts = {0, 0, 1010, 4, 0, 3, 0, 0, 0, 0, 0, 0, 0, 0, 0, 0};
        for (int what = 0; what < counts.length; what++) {
            due("count " + what, x.count(what), counts[what]);
        }
        due("fault", x.fault(), NONE);
        none("house", () -> x.house(0, 0));
        none("plot", () -> x.plot(0, 0));
        due("free", x.free(), 0);
        due("undo", x.undo(), NONE);
        due("restore", x.restore() ? 1 : 0, 0);
    }

    private static void feed() {
        promise(2);
        SonsLot x = new SonsLot();
        for (int i = 1; i <= 35; i++) {
            due("feed " + i, x.feed(0x20202020, 0x20202020, 0x20202020, 0x20202020, 0x20202020), 20 * i);
        }
        due("feed beyond 700", x.feed(0, 0, 0, 0, 0), NONE);
        due("bytes then", x.count(12), 700);
        due("island of 700 blanks", x.island(700), 0);
        due("bytes behind island", x.count(12), 0);
        // "eats", " 20;", then bytes that are no tokens: the highest byte of each number comes first
        x.feed(0x65617473, 0x2032303b, 0xff000000, 0, 0);
        due("island", x.island(8), 0);
        due("eats", x.count(3), 20);
        x.feed(0x65617473, 0x2032303b, 0xff000000, 0, 0);
        due("island", x.island(9), 1);
        due("fault", x.fault(), 8);
    }

    private static void island() {
        promise(3);
        SonsLot x = of(THREE);
        due("houses", x.count(0), 3);
        due("plots", x.count(1), 3);
        shares(x, 1, 0, 2);
        tape(x, "house 1 1 1;");
        due("bytes", x.count(12), 20);
        illegal("island beyond the tape", () -> x.island(21));
        illegal("island below 0", () -> x.island(-1));
        illegal("island at the least", () -> x.island(Integer.MIN_VALUE));
        due("bytes", x.count(12), 20);
        due("houses", x.count(0), 3);
        due("island of a part", x.island(12), 0);
        due("bytes", x.count(12), 0);
        due("houses", x.count(0), 1);
        due("share without plots", x.house(0, 4), NONE);
        due("empty island", x.island(0), 0);
        due("houses", x.count(0), 0);
    }

    private static void islandAllAnew() {
        promise(3);
        SonsLot x = of(THREE + "market 1 2;rain 5;eats 7;worth 1;yields 1;");
        x.turn(0);
        x.order(2, 0);
        x.years(3);
        x.market(3, 3);
        x.see(0, 1, 1);
        x.see(0, 100, 1);
        x.market(-1, 0);
        x.image();
        tell(x, "x");
        due("acts stay behind a fault", x.count(10), 4);
        due("seen stays", x.count(11), 1);
        due("curses stay", x.count(8), 1);
        due("year stays", x.count(4), 3);
        due("island", tell(x, THREE), 0);
        int[] counts = {3, 3, 1010, 4, 0, 3, 0, 0, 0, 0, 0, 0, 0, 1, 1, 1};
        for (int what = 0; what < counts.length; what++) {
            due("count " + what, x.count(what), counts[what]);
        }
        shares(x, 1, 0, 2);
        stores(x, 0, 0, 0);
        due("place", x.house(2, 6), 2);
        due("undo", x.undo(), NONE);
        due("restore", x.restore() ? 1 : 0, 0);
        due("worth", x.worth(0, 0), 4);
        due("harvest", x.harvest(0, 0, 0), 5);
    }

    private static void faultsOfLines() {
        promise(4);
        fine("");
        fine(" \n ");
        fine("house1 2 0;house\n3 4 1 ;plot 0 0 0;plot0 1 9;");
        fault("x", 1, 0);
        fault("A", 1, 0);
        fault("  house", 1, 7);
        fault("house 1 2 0", 1, 11);
        fault("house 1 2 0 ", 1, 12);
        fault("house 1 2;", 1, 9);
        fault("house 1 2 0 1;", 1, 12);
        fault("house 1 2 0;;", 1, 12);
        fault("housex 1 2 0;", 1, 0);
        fault("house x 2 0;", 1, 6);
        fault("house 1\t2 0;", 1, 7);
        fault("house 1\u00e92 0;", 1, 7);
        fault("1;", 1, 0);
        fault("12345;", 1, 0);
        fault("strength;", 1, 0);
        fault("or", 1, 0);
        fault("rain;", 1, 4);
        fault("rain 1 x;", 1, 7);
        fault("market 1;", 1, 8);
        fault("eats;", 1, 4);
        fault("eats 1 2;", 1, 7);
        fault("house 1 1 1;".repeat(9), 2, 96);
        fine("house 1 1 1;".repeat(8));
        StringBuilder plots = new StringBuilder();
        for (int i = 0; i < 9; i++) {
            plots.append("plot ").append(i).append(" 0 0;");
        }
        fine(plots.toString());
        fault(plots + "plot 0 0 0;", 2, 99);
        fine("rain 1 2 3 4 5 6 7 8 9 0;");
        fault("rain 1 2 3 4 5 6 7 8 9 0 1;", 2, 25);
        fault("rain 1 2 3 4 5 6 7 8 9 0 x;", 1, 25);
        fault("plot 1 1 1;plot 1 1 2;", 4, 18);
        fault("plot 1 1 1;plot 1 1", 4, 18);
        fault("plot 1 1 1;plot 1 21 2;", 2, 18);
        fine("plot 1 2 1;plot 2 1 2;plot 1 1 1;");
        fault("market 1 1;market 1 1;", 5, 11);
        fault("rain 1;rain 1;", 5, 7);
        fault("eats 1;eats 1;", 5, 7);
        fault("worth 1;worth 1;", 5, 8);
        fault("yields 1;yields 1;", 5, 9);
        fault("eats 21;house;", 2, 5);
    }

    private static void faultsOfNumbers() {
        promise(4);
        fault("house 10 0 0;", 2, 6);
        fault("house 0 10 0;", 2, 8);
        fault("house 1 1 3;", 2, 10);
        fine("house 9 9 2;");
        fine("house 0009 0000 0002;");
        fault("house 00001 1 1;", 2, 6);
        fault("house 12345 0 0;", 2, 6);
        fault("house 99999999999999999999 0 0;", 2, 6);
        fault("house 1 1 1 12345;", 1, 12);
        fault("plot 21 0 0;", 2, 5);
        fault("plot 0 21 0;", 2, 7);
        fault("plot 0 0 10;", 2, 9);
        fine("plot 20 20 9;");
        fault("market 21 0;", 2, 7);
        fault("market 0 21;", 2, 9);
        fine("market 20 20;");
        fault("rain 10;", 2, 5);
        fault("rain 1 12345;", 2, 7);
        fault("rain 1 10;", 2, 7);
        fault("eats 21;", 2, 5);
        fine("eats 20;");
        fine("worth 9999;");
        fault("worth 10000;", 2, 6);
        fault("worth 00001;", 2, 6);
        fault("worth 1 10000;", 1, 8);
    }

    private static void faultsOfRules() {
        promise(4);
        fault("worth", 1, 5);
        fault("worth ;", 1, 6);
        fault("worth 1", 1, 7);
        fault("worth 1 2;", 1, 8);
        fault("worth 1<2<3;", 1, 9);
        fault("worth 1<2=3;", 1, 9);
        fault("worth (1;", 1, 8);
        fault("worth 1);", 1, 7);
        fault("worth ();", 1, 7);
        fault("worth 1 foo;", 1, 8);
        fault("worth 1 not 1;", 1, 8);
        fault("worth -1;", 1, 6);
        fault("worth 1+;", 1, 8);
        fault("worth 1 and;", 1, 11);
        fault("worth not;", 1, 9);
        fault("worth 1 # 2;", 1, 8);
        fault("worth rain;", 3, 6);
        fault("worth year;", 3, 6);
        fine("yields rain+year;");
        fine("worth strength+tribe+water+walk+younger;");
        fault("worth foo;", 3, 6);
        fault("worth zz;", 3, 6);
        fault("worth or 1;", 3, 6);
        fault("worth 1 or and;", 3, 11);
        fault("worth house;", 3, 6);
        fault("worth 1+not 1;", 3, 8);
        fault("worth 1<not 1;", 3, 8);
        fault("yields waters;", 3, 7);
        fine("worth (((((1)))));");
        fault("worth ((((((1))))));", 2, 12);
        fault("worth ((((((12345))))));", 2, 12);
        fault("worth (((((((1)))))));", 2, 12);
        fault("worth ((((((foo))))));", 2, 12);
        fault("worth ((((((not 1))))));", 2, 12);
        fault("worth ((((((house))))));", 2, 12);
        fault("worth (((((()))))) ;", 1, 12);
        fault("worth ((((((;", 1, 12);
        fault("worth ((((((", 1, 12);
        fine("worth (((((1)))))+(((((1)))));");
        fine("worth not not not not not not 1;");
        fault("worth not not not not not not not 1;", 2, 30);
        fault("worth not not not not not not foo;", 3, 30);
        fine("worth not not not not not not (not not not not not not 1) and not 1;");
        fine("worth not 1 and not not not not not not 1;");
    }

    private static void rule(String expr, int worth) {
        SonsLot x = of("house 5 2 1;plot 3 4 6;market 1 1;worth " + expr + ";");
        due(expr, x.worth(0, 0), worth);
    }

    private static void rules() {
        promise(8);
        rule("1+2*3", 7);
        rule("(1+2)*3", 9);
        rule("10-3-2", 5);
        rule("100/7/2", 7);
        rule("2*7/4", 3);
        rule("7/4*2", 2);
        rule("(0-7)/2", -3);
        rule("5/0", 0);
        rule("(0-5)/(1-1)", 0);
        rule("9999*9999*9999", 9999 * 9999 * 9999);
        rule("(0-128*4096*4096)/(0-1)", Integer.MIN_VALUE);
        rule("1<2", 1);
        rule("2<2", 0);
        rule("2=2", 1);
        rule("1+1=2", 1);
        rule("not 0", 1);
        rule("not 7", 0);
        rule("not not 7", 1);
        rule("not 1<0", 1);
        rule("(not 1)<1", 1);
        rule("7 and 0-3", 1);
        rule("7 and 0", 0);
        rule("0 or 5", 1);
        rule("0 or 0", 0);
        rule("1 or 0 and 0", 1);
        rule("(1 or 0) and 0", 0);
        rule("not 1 or 1", 1);
        String waiting = "0 or 1 and 1<1+3-5*";
        rule((waiting + "(").repeat(5) + "0 or 1 and 1<1+3-5*0" + ")".repeat(5), 0);
        rule((waiting + "(").repeat(5) + "0 or 1 and 1<1+3-5*1" + ")".repeat(5), 1);
        rule((waiting + "(").repeat(4) + "0 or 1 and 1<1+3-5*0" + ")".repeat(4), 1);
        rule("1+2*(1+2*(1+2*(1+2*(1+2*(1+2*3)))))", 255);
        rule("strength", 5);
        rule("tribe", 1);
        rule("water", 6);
        rule("walk", 5);
        rule("younger", 0);
        rule("strength*1000+tribe*100+water*10+walk", 5165);
        SonsLot x = of("house 5 2 1;plot 3 4 6;worth strength*10+younger;yields rain*10+year;rain 1 2;");
        due("of the elder", x.worth(0, 0), 50);
        x.turn(0);
        due("of the younger", x.worth(0, 0), 21);
        due("in year 0", x.harvest(0, 0, 0), 10);
        due("in year 1", x.harvest(0, 0, 1), 21);
        due("in year 7", x.harvest(0, 0, 7), 27);
    }

    // ---- how things are

    private static void count() {
        promise(5);
        SonsLot x = of(THREE + "market 7 12;rain 4 5 6;eats 9;yields 10*(strength=5);");
        due("market", x.count(2), 1207);
        due("eats", x.count(3), 9);
        due("rain", x.count(5), 4);
        x.years(4);
        due("year", x.count(4), 4);
        due("rain", x.count(5), 5);
        due("gone", x.count(6), 6);
        due("tithe", x.count(7), 4);
        x.turn(0);
        x.turn(2);
        x.turn(2);
        due("curses", x.count(8), 3);
        due("lots", x.count(9), 1);
        due("acts", x.count(10), 4);
        x.see(1, 1, 1);
        due("seen", x.count(11), 1);
        tape(x, "a");
        due("bytes", x.count(12), 20);
        none("count -1", () -> x.count(-1));
        none("count 16", () -> x.count(16));
    }

    private static void house() {
        promise(6);
        SonsLot x = of(THREE);
        int[][] houses = {{5, 2, 0, 0, 1, 0, 0, 0}, {3, 8, 1, 0, 0, 0, 1, 1}, {4, 4, 2, 0, 2, 0, 2, 3}};
        for (int h = 0; h < 3; h++) {
            for (int what = 0; what < 8; what++) {
                due("house " + h + " " + what, x.house(h, what), houses[h][what]);
            }
        }
        none("what -1", () -> x.house(0, -1));
        none("what 8", () -> x.house(0, 8));
        none("house -1", () -> x.house(-1, 0));
        none("house 3", () -> x.house(3, 0));
        // who has none envies whoever has a share, be it worth little; nobody envies him, or who has a like share
        SonsLot y = of("house 1 1 1;house 1 1 1;house 1 1 1;plot 0 0 0;plot 0 1 1;worth 0-9;");
        due("envy of who has none", y.house(2, 7), 3);
        due("envy of who has one", y.house(0, 7), 0);
        due("no share", y.house(2, 4), NONE);
    }

    private static void plot() {
        promise(7);
        SonsLot x = of("house 1 1 1;plot 3 4 6;plot 20 0 9;");
        int[][] plots = {{3, 4, 6, 13, 0}, {20, 0, 9, 20, NONE}};
        for (int p = 0; p < 2; p++) {
            for (int what = 0; what < 5; what++) {
                due("plot " + p + " " + what, x.plot(p, what), plots[p][what]);
            }
        }
        x.market(20, 1);
        due("walk", x.plot(1, 3), 1);
        due("whose", x.plot(1, 4), 0);
        due("whose", x.plot(0, 4), NONE);
        none("what -1", () -> x.plot(0, -1));
        none("what 5", () -> x.plot(0, 5));
        none("plot -1", () -> x.plot(-1, 0));
        none("plot 2", () -> x.plot(2, 0));
    }

    private static void worth() {
        promise(8);
        SonsLot x = of(THREE);
        due("2 by water less walk", x.worth(2, 0), 4);
        due("2 by water less walk", x.worth(0, 1), 10);
        due("2 by water less walk", x.worth(1, 2), -2);
        none("house", () -> x.worth(3, 0));
        none("house", () -> x.worth(-1, 0));
        none("plot", () -> x.worth(0, 3));
        none("plot", () -> x.worth(0, -1));
    }

    private static void harvest() {
        promise(9);
        SonsLot x = of(THREE + "rain 1 9;");
        due("water and rain", x.harvest(0, 0, 0), 3);
        due("water and rain", x.harvest(0, 2, 1), 18);
        due("last year", x.harvest(0, 2, 999), 18);
        illegal("year -1", () -> x.harvest(0, 0, -1));
        illegal("year 1000", () -> x.harvest(0, 0, 1000));
        none("house ahead of year", () -> x.harvest(3, 0, 1000));
        none("plot ahead of year", () -> x.harvest(0, -1, -1));
        SonsLot y = of(THREE + "yields 1000*strength-4000;eats 0;");
        due("99 at most", y.harvest(0, 0, 0), 99);
        due("0 at least", y.harvest(1, 0, 0), 0);
        SonsLot z = of("house 1 1 1;plot 0 0 0;eats 9;");
        z.years(1);
        due("would, though gone", z.harvest(0, 0, 0), 3);
    }

    // ---- acts

    private static final String EIGHT = "house 0 1 0;".repeat(8);

    private static void lots() {
        promise(10);
        SonsLot x = of(EIGHT + "plot 0 0 0;plot 0 1 1;worth younger*water-water*(1-younger);");
        due("share of the first", x.house(0, 4), 0);
        // the seed 1 gives 16838 5758 10113 17515 31051 5627 23010 7419
        due("lots(1)", x.lots(1), 188);
        due("lots", x.count(9), 188);
        due("lot", x.house(2, 3), 1);
        due("lot", x.house(6, 3), 0);
        due("acts", x.count(10), 1);
        due("curses", x.count(8), 0);
        due("lots(1) again", x.lots(1), 188);
        x.order(2, 0);
        due("the younger takes", x.house(2, 4), 1);
        x.exchange(2, 7);
        x.lots(1);
        due("taken anew", x.house(2, 4), 1);
    }

    private static void turn() {
        promise(11);
        SonsLot x = of("house 1 5 0;house 3 3 1;plot 0 0 4;plot 0 1 0;worth (strength-2)*water;");
        shares(x, 1, 0);
        due("turn", x.turn(0), 1);
        shares(x, 0, 1);
        due("lots", x.count(9), 1);
        due("turn", x.turn(0), 0);
        shares(x, 1, 0);
        due("curses", x.count(8), 2);
        x.exchange(0, 1);
        x.turn(1);
        shares(x, 1, 0);
        due("acts", x.count(10), 4);
        none("house 2", () -> x.turn(2));
        none("house -1", () -> x.turn(-1));
        due("acts", x.count(10), 4);
        due("STATUS", x.count(14), 0);
    }

    private static void order() {
        promise(12);
        SonsLot x = of(THREE);
        due("to the front", x.order(2, 0), 2);
        shares(x, 0, 2, 1);
        due("place", x.house(2, 6), 0);
        due("place", x.house(0, 6), 1);
        due("place", x.house(1, 6), 2);
        due("to the end", x.order(2, 2), 0);
        shares(x, 1, 0, 2);
        due("to the middle", x.order(0, 1), 0);
        shares(x, 0, 1, 2);
        x.exchange(0, 2);
        due("the same place", x.order(1, 0), 0);
        shares(x, 0, 1, 2);
        due("acts", x.count(10), 5);
        due("no place", x.order(0, 3), NONE);
        due("no place", x.order(0, -1), NONE);
        due("STATUS", x.count(14), 2);
        none("house ahead of place", () -> x.order(3, 9));
        none("house", () -> x.order(-1, 0));
        due("STATUS", x.count(14), 2);
        due("acts", x.count(10), 5);
    }

    private static void exchange() {
        promise(13);
        SonsLot x = of("house 1 1 1;house 1 1 1;house 1 1 1;house 1 1 1;plot 0 0 0;plot 0 1 1;");
        shares(x, 1, 0, NONE, NONE);
        due("exchange", x.exchange(0, 1) ? 1 : 0, 1);
        shares(x, 0, 1, NONE, NONE);
        due("with none", x.exchange(2, 0) ? 1 : 0, 1);
        shares(x, NONE, 1, 0, NONE);
        due("both none", x.exchange(0, 3) ? 1 : 0, 1);
        due("acts", x.count(10), 3);
        due("both one", x.exchange(1, 1) ? 1 : 0, 0);
        due("STATUS", x.count(14), 1);
        due("acts", x.count(10), 3);
        x.years(1);
        shares(x, NONE, 1, 0, NONE);
        none("house", () -> x.exchange(4, 4) ? 1 : 0);
        none("other", () -> x.exchange(0, -1) ? 1 : 0);
        due("STATUS", x.count(14), 1);
    }

    private static void market() {
        promise(14);
        SonsLot x = of(THREE);
        due("market", x.market(0, 3), 1010);
        due("then", x.count(2), 300);
        // walks 17, 19, 3: worth -13, -7, 15
        shares(x, 2, 1, 0);
        x.exchange(0, 1);
        due("market", x.market(20, 20), 300);
        due("the same", x.market(20, 20), 2020);
        // walks 20, 18, 40: worth -16, -6, -22
        shares(x, 1, 0, 2);
        due("acts", x.count(10), 4);
        due("x below", x.market(-1, 0), NONE);
        due("x above", x.market(21, 0), NONE);
        due("y below", x.market(0, -1), NONE);
        due("y above", x.market(0, 21), NONE);
        due("STATUS", x.count(14), 4);
        due("acts", x.count(10), 4);
        due("there", x.count(2), 2020);
    }

    private static void years() {
        promise(15);
        SonsLot x = of(THREE);
        due("years", x.years(2), 2);
        stores(x, 10, 2, 14);
        due("tithe", x.count(7), 2);
        due("none", x.years(0), NONE);
        due("below", x.years(-1), NONE);
        due("above", x.years(31), NONE);
        due("most", x.years(30), 32);
        for (int i = 0; i < 32; i++) {
            x.years(30);
        }
        due("year", x.count(4), 992);
        due("above 999", x.years(8), NONE);
        due("to 999", x.years(7), 999);
        due("above 999", x.years(1), NONE);
        due("STATUS", x.count(14), 5);
        due("wrapping", x.years(Integer.MAX_VALUE), NONE);
        due("forecast behind 999", x.then(1, 1), 999 - 4);
    }

    private static void storesAndTithes() {
        promise(15);
        // 99 less a tenth are 90; what is above 999 is lost ahead of eating
        SonsLot x = of("house 1 1 1;house 1 1 1;plot 0 0 0;yields 100;eats 20;");
        x.years(13);
        stores(x, 910, 0);
        due("gone", x.count(6), 2);
        x.years(1);
        stores(x, 979, 0);
        x.years(1);
        stores(x, 979, 0);
        due("tithe", x.count(7), 15 * 9);
        // 19 less 1; as much as he eats is enough
        SonsLot y = of("house 1 1 1;plot 0 0 9;rain 9 1;eats 17;yields water+rain+(year=0);");
        y.years(1);
        stores(y, 1);
        due("tithe", y.count(7), 1);
        y.years(1);
        stores(y, 0);
        due("gone", y.count(6), 1);
        due("tithe", y.count(7), 2);
        due("his share stays", y.house(0, 4), 0);
        y.years(5);
        due("no tithe of who is gone", y.count(7), 2);
        y.turn(0);
        due("still gone", y.count(6), 1);
        due("takes a share", y.house(0, 4), 0);
        SonsLot z = of("house 1 1 1;plot 0 0 9;eats 10;yields 11;");
        z.years(3);
        stores(z, 0);
        due("just enough", z.count(6), 0);
    }

    private static void undo() {
        promise(16);
        SonsLot x = of(THREE);
        due("none", x.undo(), NONE);
        due("STATUS", x.count(14), 0);
        x.turn(1);
        x.order(2, 0);
        x.exchange(0, 1);
        x.market(0, 0);
        x.years(3);
        x.lots(1);
        due("lots", x.count(9), 4);
        due("undo lots", x.undo(), 5);
        due("lots", x.count(9), 2);
        due("undo years", x.undo(), 4);
        due("year", x.count(4), 0);
        due("tithe", x.count(7), 0);
        stores(x, 0, 0, 0);
        due("undo market", x.undo(), 3);
        due("market", x.count(2), 1010);
        shares(x, 2, 0, 1);
        due("undo exchange", x.undo(), 2);
        shares(x, 0, 2, 1);
        due("undo order", x.undo(), 1);
        shares(x, 1, 0, 2);
        due("place", x.house(2, 6), 2);
        due("undo turn", x.undo(), 0);
        due("curses", x.count(8), 0);
        due("lots", x.count(9), 0);
        due("none", x.undo(), NONE);
        SonsLot y = of("house 1 1 1;plot 0 0 0;");
        y.years(1);
        due("gone", y.count(6), 1);
        y.undo();
        due("not gone", y.count(6), 0);
        y.see(0, 1, 1);
        y.market(99, 0);
        y.undo();
        due("seen stays", y.count(11), 1);
        due("STATUS stays", y.count(14), 1);
    }

    private static void undoOfMany() {
        promise(16);
        SonsLot x = of(THREE);
        for (int i = 1; i <= 43; i++) {
            x.years(1);
            due("acts", x.count(10), Math.min(40, i));
        }
        for (int i = 39; i >= 0; i--) {
            due("undo", x.undo(), i);
        }
        due("none", x.undo(), NONE);
        due("year", x.count(4), 3);
    }

    // ---- envy and better shares

    private static void ring() {
        promise(17);
        SonsLot x = of(TASTES);
        due("none", x.ring(), NONE);
        x.exchange(0, 1);
        due("of two", x.ring(), 2);
        x.exchange(1, 2);
        due("of three", x.ring(), 3);
        x.undo();
        due("of two", x.ring(), 2);
        SonsLot y = of(THREE);
        due("envy without a ring", y.ring(), NONE);
        SonsLot z = of("house 1 1 1;house 1 1 1;plot 0 0 0;");
        due("with who has none", z.ring(), NONE);
        SonsLot last = of("house 0 0 0;" + TASTES.replace("water=tribe", "(water=tribe)*strength"));
        last.order(0, 3);
        last.exchange(2, 3);
        due("of the last ones", last.ring(), 2);
    }

    private static void best() {
        promise(18);
        SonsLot x = of("house 1 0 0;house 2 0 0;plot 10 10 3;plot 10 11 1;worth strength*water;");
        due("how much", x.best(NONE), 7);
        due("first", x.best(0), 1);
        due("second", x.best(1), 0);
        none("house 2", () -> x.best(2));
        none("house -2", () -> x.best(-2));
        SonsLot like = of("house 1 0 0;house 2 0 0;plot 10 10 3;plot 10 11 1;plot 1 1 1;worth 0;");
        due("like ones", like.best(NONE), 0);
        due("first row", like.best(0), 0);
        due("first row", like.best(1), 1);
        SonsLot few = of("house 1 0 0;house 2 0 0;house 2 0 0;plot 10 10 3;worth 0-water-strength;");
        due("all plots are given", few.best(NONE), -4);
        due("to the first", few.best(0), 0);
        due("none", few.best(1), NONE);
        SonsLot none = of("house 1 0 0;house 2 0 0;plot 10 10 3;worth strength;");
        due("none is behind all plots", none.best(0), NONE);
        due("the other has it", none.best(1), 0);
        SonsLot large = of("house 1 0 0;house 2 0 0;plot 0 0 0;plot 1 1 1;worth 9999*9999*20;");
        due("above every int", large.best(NONE), 3999200040L);
        SonsLot bare = of("house 1 0 0;");
        due("without plots", bare.best(NONE), 0);
        due("without plots", bare.best(0), NONE);
    }

    private static void fairest() {
        promise(19);
        SonsLot x = of("house 1 0 0;house 2 0 0;plot 10 10 3;plot 10 11 1;worth strength*water;");
        due("there is", x.fairest(0), 1);
        due("how much", x.fairest(1), 2);
        none("what -1", () -> x.fairest(-1));
        none("what 2", () -> x.fairest(2));
        SonsLot few = of("house 1 0 0;house 2 0 0;plot 10 10 3;");
        due("fewer plots", few.fairest(0), 0);
        due("fewer plots", few.fairest(1), 0);
        SonsLot nobody = of("plot 10 10 3;");
        due("no settlers", nobody.fairest(0), 0);
        due("no settlers", nobody.fairest(1), 0);
        SonsLot below = of("house 1 0 0;plot 10 10 3;plot 10 11 4;worth 0-water;");
        due("below 0", below.fairest(1), -3);
    }

    private static void tribes() {
        promise(20);
        SonsLot x = of("house 9 3 0;house 1 1 0;house 1 1 0;house 1 1 0;");
        due("9 1 1 1", x.tribes(), 8);
        x.turn(0);
        due("3 1 1 1", x.tribes(), 2);
        due("3 3 3", of("house 3 0 0;house 3 0 0;house 3 0 0;").tribes(), 0);
        due("one alone", of("house 5 0 0;").tribes(), 5);
        due("nobody", of("").tribes(), 0);
        due("8 7 6 5 4 3", of("house 8 0 0;house 7 0 0;house 6 0 0;house 5 0 0;house 4 0 0;house 3 0 0;").tribes(), 0);
    }

    private static void middle() {
        promise(21);
        SonsLot x = of("house 1 1 1;house 1 1 1;plot 6 4 9;plot 2 4 9;plot 20 20 0;");
        due("between", x.middle(), 402);
        due("at the edge", of("house 1 1 1;plot 20 20 0;").middle(), 2020);
        due("of three", of("house 1 1 1;".repeat(3) + "plot 1 20 0;plot 7 3 0;plot 20 5 0;").middle(), 507);
        due("no shares", of("plot 3 3 3;").middle(), 0);
        SonsLot one = of("house 1 1 1;plot 6 4 9;");
        due("of one", one.middle(), 406);
        one.years(1);
        due("of who is gone, too", one.middle(), 406);
    }

    // ---- if only years go by

    /** Harvests 7 and 0 by turns and eats 4: 3 in the first year, gone in the second. */
    private static final String HUNGRY = "house 1 1 1;house 1 1 1;plot 0 0 0;plot 0 1 9;rain 7 0;";

    private static void then() {
        promise(22);
        SonsLot x = of(THREE);
        due("now", x.then(2, 0), 0);
        due("then", x.then(2, 1), 7);
        due("then", x.then(2, 2), 14);
        due("at the most", x.then(1, 50), 50);
        due("year stays", x.count(4), 0);
        due("store stays", x.house(2, 5), 0);
        illegal("years -1", () -> x.then(0, -1));
        illegal("years 51", () -> x.then(0, 51));
        none("house ahead", () -> x.then(3, 51));
        x.years(1);
        due("from now on", x.then(2, 1), 14);
    }

    private static void starves() {
        promise(23);
        SonsLot x = of(HUNGRY);
        shares(x, 1, 0);
        due("in the second", x.starves(1), 2);
        due("never", x.starves(0), NONE);
        x.years(1);
        due("in the next", x.starves(1), 1);
        x.years(1);
        due("he is", x.starves(1), 0);
        none("house", () -> x.starves(2));
        none("house", () -> x.starves(-1));
        SonsLot last = of("house 1 1 1;plot 0 0 0;eats 4;yields 4*(year<49);");
        due("in the 50th", last.starves(0), 50);
        SonsLot late = of("house 1 1 1;plot 0 0 0;eats 4;yields 4*(year<50);");
        due("behind the 50th", late.starves(0), NONE);
    }

    private static void tithes() {
        promise(24);
        SonsLot x = of(THREE);
        due("none", x.tithes(0), 0);
        due("one a year", x.tithes(1), 1);
        due("one a year", x.tithes(50), 50);
        x.years(5);
        due("of these years alone", x.tithes(3), 3);
        due("so far", x.count(7), 5);
        illegal("years -1", () -> x.tithes(-1));
        illegal("years 51", () -> x.tithes(51));
    }

    private static void holdsOut() {
        promise(25);
        SonsLot x = of(HUNGRY);
        due("the first", x.holdsOut(), 2);
        x.years(2);
        due("of those who aren't", x.holdsOut(), NONE);
        due("nobody", of("").holdsOut(), NONE);
        due("in the 50th", of("house 1 1 1;plot 0 0 0;yields 4*(year<49);").holdsOut(), 50);
        due("behind it", of("house 1 1 1;plot 0 0 0;yields 4*(year<50);").holdsOut(), NONE);
    }

    private static void famine() {
        promise(31);
        SonsLot x = of(HUNGRY);
        due("now", x.famine(0), 0);
        due("in one", x.famine(1), 0);
        due("in two", x.famine(2), 1);
        due("in 50", x.famine(50), 1);
        x.years(2);
        due("who is now", x.famine(0), 1);
        illegal("years -1", () -> x.famine(-1));
        illegal("years 51", () -> x.famine(51));
    }

    private static void bushels() {
        promise(32);
        SonsLot x = of(HUNGRY);
        due("none", x.bushels(1, 0), 0);
        due("7", x.bushels(1, 1), 7);
        due("nothing when gone", x.bushels(1, 50), 7);
        due("16 and 9", x.bushels(0, 3), 41);
        x.years(1);
        due("from now on", x.bushels(0, 1), 9);
        illegal("years -1", () -> x.bushels(0, -1));
        illegal("years 51", () -> x.bushels(0, 51));
        none("house ahead", () -> x.bushels(2, 51));
        due("without a share", of("house 1 1 1;eats 0;").bushels(0, 9), 0);
        due("in the year in which he is gone", of("house 1 1 1;plot 0 0 0;").bushels(0, 9), 3);
    }

    private static void richest() {
        promise(34);
        SonsLot x = of(THREE);
        due("of like ones the least", x.richest(0), 0);
        due("in one", x.richest(1), 2);
        due("in 50", x.richest(50), 2);
        illegal("years -1", () -> x.richest(-1));
        illegal("years 51", () -> x.richest(51));
        due("nobody", of("").richest(1), NONE);
        due("all gone", of("house 1 1 1;house 1 1 1;").richest(9), 0);
    }

    private static void change() {
        promise(27);
        SonsLot x = of("house 5 2 0;house 3 8 1;house 4 9 2;plot 0 0 0;plot 1 0 0;plot 2 0 0;worth 1;yields strength+9;");
        // elders harvest 14, 12, 13 less 1 each; turned: 11 less 1, 17 less 1, 18 less 1
        due("of like ones the least", x.change(1), 1);
        x.turn(1);
        due("then the next", x.change(20), 2);
        x.turn(2);
        due("no more", x.change(5), NONE);
        illegal("years 0", () -> x.change(0));
        illegal("years 21", () -> x.change(21));
        due("nothing is turned", x.count(9), 6);
        due("acts", x.count(10), 2);
        // shares are taken anew when a lot is turned: the exchange that did harm ends
        SonsLot y = of(TASTES + "yields 50*(water=tribe);eats 0;");
        y.exchange(0, 1);
        due("exchange ends", y.change(1), 0);
        due("nobody", of("").change(1), NONE);
    }

    private static void lotsFor() {
        promise(26);
        SonsLot x = of(THREE);
        // 12, 9, 17, 14, each of them twice
        due("all", x.lotsFor(0, NONE), 8);
        due("12", x.lotsFor(12, NONE), 6);
        due("18", x.lotsFor(18, NONE), 0);
        due("17", x.lotsFor(17, NONE), 2);
        due("12 by 0", x.lotsFor(12, 0), 2);
        due("12 by 1", x.lotsFor(12, 1), 4);
        due("12 by 2", x.lotsFor(12, 2), 3);
        due("99", x.lotsFor(99, NONE), 0);
        x.turn(0);
        due("as it is doesn't matter", x.lotsFor(12, 0), 2);
        due("lots stay", x.count(9), 1);
        illegal("strength -1", () -> x.lotsFor(-1, NONE));
        illegal("strength 100", () -> x.lotsFor(100, 0));
        none("house ahead", () -> x.lotsFor(100, 3));
        none("house -2", () -> x.lotsFor(0, -2));
    }

    private static void envied() {
        promise(28);
        SonsLot x = of(THREE);
        due("who", x.envied(0), 0);
        due("by how many", x.envied(1), 2);
        none("what -1", () -> x.envied(-1));
        none("what 2", () -> x.envied(2));
        SonsLot y = of(TASTES);
        due("nobody", y.envied(0), NONE);
        due("by nobody", y.envied(1), 0);
        y.exchange(1, 2);
        due("of like ones the least", y.envied(0), 1);
        due("by one", y.envied(1), 1);
    }

    private static void without() {
        promise(29);
        SonsLot x = of(THREE);
        due("the next one moves up", x.without(0, 1), 1);
        due("and the last", x.without(0, 2), 0);
        due("who comes ahead", x.without(1, 0), 1);
        due("behind him", x.without(1, 2), 0);
        illegal("both one", () -> x.without(1, 1));
        none("house ahead", () -> x.without(3, 3));
        none("other", () -> x.without(0, -1));
        x.exchange(0, 1);
        due("taken anew", x.without(2, 0), 1);
        shares(x, 0, 1, 2);
        SonsLot y = of("house 1 1 1;house 1 1 1;house 1 1 1;plot 0 0 0;");
        due("none", y.without(0, 2), NONE);
        due("his", y.without(0, 1), 0);
    }

    private static void lastPlace() {
        promise(30);
        SonsLot x = of(THREE);
        due("of the first", x.lastPlace(0), 0);
        due("of the second", x.lastPlace(1), 1);
        due("of the third", x.lastPlace(2), 2);
        x.exchange(0, 2);
        due("with less", x.lastPlace(0), 2);
        due("with more", x.lastPlace(2), 0);
        due("order stays", x.house(2, 6), 2);
        shares(x, 2, 0, 1);
        none("house", () -> x.lastPlace(3));
        none("house", () -> x.lastPlace(-1));
        SonsLot y = of("house 1 1 1;house 1 1 1;house 1 1 1;plot 0 0 0;");
        due("who has one needs it", y.lastPlace(0), 0);
        due("none is no less than none", y.lastPlace(1), 2);
        due("tastes", of(TASTES).lastPlace(0), 2);
    }

    private static void free() {
        promise(33);
        SonsLot x = of("house 1 1 1;plot 0 0 0;plot 10 10 9;plot 0 2 0;");
        due("free", x.free(), 5);
        due("all", of("plot 0 0 0;plot 1 0 0;").free(), 3);
        due("none", of(THREE).free(), 0);
    }

    // ---- what is seen

    private static void see() {
        promise(35);
        SonsLot x = of(THREE);
        due("year -1", x.see(0, -1, 0), NONE);
        due("year 100", x.see(0, 100, 0), NONE);
        due("harvest -1", x.see(0, 0, -1), NONE);
        due("harvest 100", x.see(0, 0, 100), NONE);
        due("STATUS", x.count(15), 4);
        for (int i = 1; i <= 8; i++) {
            due("see", x.see(i % 3, 99, 99), i);
        }
        due("there are 8", x.see(0, 0, 0), NONE);
        due("STATUS", x.count(15), 5);
        due("seen", x.count(11), 8);
        none("house ahead", () -> x.see(3, 100, 100));
        none("house", () -> x.see(-1, 0, 0));
        due("STATUS", x.count(15), 5);
    }

    private static void brothers() {
        promise(36);
        SonsLot x = of(THREE + "yields strength;");
        due("nothing seen", x.brothers(), 0x707);
        x.see(0, 5, 2);
        due("the other brother of 0", x.brothers(), 0x607);
        x.see(1, 5, 3);
        due("as it is of 1", x.brothers(), 0x605);
        x.see(2, 9, 4);
        due("both of 2", x.brothers(), 0x605);
        x.see(0, 7, 5);
        due("none of 0", x.brothers(), 0x604);
        x.turn(1);
        due("turned", x.brothers(), 0x406);
        SonsLot y = of("house 1 1 1;house 1 1 1;plot 0 0 5;");
        y.see(1, 0, 0);
        y.see(0, 0, 8);
        due("without a share 0", y.brothers(), 0x303);
        y.exchange(0, 1);
        due("on the share now", y.brothers(), 0);
    }

    private static void look() {
        promise(37);
        SonsLot x = of(THREE + "yields strength*(1+(year=7)+(year=8));");
        due("year", x.look(0, 0), 7);
        due("by how much", x.look(0, 1), 6);
        due("the younger is more", x.look(1, 1), 10);
        due("never", x.look(2, 0), NONE);
        due("never", x.look(2, 1), 0);
        none("what -1", () -> x.look(0, -1));
        none("what 2", () -> x.look(0, 2));
        none("house", () -> x.look(3, 0));
        SonsLot y = of("house 1 9 1;house 1 9 1;plot 0 0 5;yields strength*(year=99);");
        due("the last year", y.look(0, 0), 99);
        due("without a share", y.look(1, 0), NONE);
        due("year 100 is too late", of("house 1 9 1;plot 0 0 5;yields strength*(year=100);").look(0, 0), NONE);
    }

    private static void forget() {
        promise(38);
        SonsLot x = of(THREE);
        x.see(0, 0, 1);
        x.see(0, 0, 100);
        x.forget();
        due("seen", x.count(11), 0);
        due("brothers", x.brothers(), 0x707);
        due("STATUS stays", x.count(15), 1);
        due("see", x.see(0, 0, 1), 1);
    }

    private static void game() {
        promise(39);
        // plot 2 lies free: worth 30; the shares 10 and 10; the strength 5 and 3
        String text = "plot 0 0 1;plot 0 1 1;plot 0 2 3;worth 10*water;";
        SonsLot x = of("house 5 3 0;house 3 3 0;house 1 1 1;" + text);
        // the first takes plot 2, the second plot 0, the third plot 1
        shares(x, 2, 0, 1);
        // 1 against 2 over plot 2: 30 alone, 25 and 0 together, 10 for who stays: only 1 goes
        due("how many", x.game(1, 2, 2, 0), 1);
        due("which", x.game(1, 2, 2, 1), 10);
        due("the other way round", x.game(2, 1, 2, 1), 1);
        // 0 stays with 30 as well as he goes alone, but 25 together: he goes or stays while 1 stays; 1 goes if he stays
        due("how many", x.game(0, 1, 2, 0), 2);
        due("which", x.game(0, 1, 2, 1), 1);
        // as strong: both together have nothing, one alone 30
        SonsLot y = of("house 3 3 0;house 3 3 0;house 3 3 0;" + text);
        shares(y, 2, 0, 1);
        due("as strong: one of both goes", y.game(1, 2, 2, 0), 2);
        due("the first", y.game(1, 2, 2, 1), 1);
        illegal("both one", () -> x.game(1, 1, 2, 0));
        none("what ahead", () -> x.game(1, 1, 2, 2));
        none("what", () -> x.game(1, 2, 2, -1));
        none("plot ahead", () -> x.game(1, 1, 3, 0));
        none("plot", () -> x.game(1, 2, -1, 0));
        none("house", () -> x.game(3, 3, 2, 0));
        none("other", () -> x.game(0, -1, 2, 0));
        // without shares, over a plot of worth -1: both stay
        SonsLot z = of("house 3 3 0;house 4 3 0;house 5 5 0;plot 0 0 0;worth 0-1;");
        due("nothing without a share", z.game(1, 2, 0, 0), 1);
        due("both stay", z.game(1, 2, 0, 1), 0);
        // over a plot of worth 1: who goes first keeps the other away, or not: the stronger has -4 when both go
        SonsLot w = of("house 3 3 0;house 4 3 0;house 5 5 0;plot 0 0 0;worth 1;");
        due("two rest", w.game(1, 2, 0, 0), 2);
        due("the first", w.game(1, 2, 0, 1), 1);
    }

    private static void founders() {
        promise(40);
        SonsLot x = of("house 1 1 1;house 1 1 1;house 1 1 1;plot 0 0 0;plot 0 1 0;plot 0 2 0;yields 10*younger;");
        // draws of the seed 1: 0 0 1, 1 1 1; a younger one has 9 less 4 a year, an elder one is gone at once
        due("gone", x.founders(1, 1, 0), 2);
        due("most", x.founders(1, 1, 1), 25);
        due("nobody", x.founders(1, 1, 2), 0);
        due("gone", x.founders(1, 2, 0), 2);
        due("nobody", x.founders(1, 2, 2), 1);
        due("no times", x.founders(1, 0, 0), 0);
        due("no times", x.founders(1, 0, 1), 0);
        due("no times", x.founders(1, 0, 2), 0);
        x.years(3);
        x.years(30);
        due("from year 0, nobody gone", x.founders(1, 2, 0), 2);
        due("year stays", x.count(4), 33);
        due("gone stays", x.count(6), 7);
        due("lots stay", x.count(9), 0);
        none("what -1", () -> x.founders(1, 1, -1));
        none("what ahead", () -> x.founders(1, 31, 3));
        illegal("n -1", () -> x.founders(1, -1, 0));
        illegal("n 31", () -> x.founders(1, 31, 0));
        due("30 times", of("").founders(1, 30, 2), 30);
    }

    // ---- an image

    private static void image() {
        promise(41);
        SonsLot x = of(THREE);
        x.turn(0);
        x.image();
        x.turn(1);
        x.image();
        x.turn(2);
        x.restore();
        due("in place of another one", x.count(9), 3);
        due("acts", x.count(10), 2);
    }

    private static void restore() {
        promise(42);
        SonsLot x = of(THREE);
        due("none", x.restore() ? 1 : 0, 0);
        x.turn(0);
        x.order(2, 0);
        x.exchange(0, 1);
        x.market(3, 4);
        x.exchange(0, 1);
        x.years(2);
        x.see(0, 1, 2);
        x.market(99, 99);
        x.see(0, 1, 100);
        int[] stores = {x.house(0, 5), x.house(1, 5), x.house(2, 5)};
        int[] plots = {x.house(0, 4), x.house(1, 4), x.house(2, 4)};
        int[] counts = new int[16];
        for (int what = 0; what < 16; what++) {
            counts[what] = x.count(what);
        }
        x.image();
        x.lots(1);
        x.order(1, 0);
        x.market(0, 0);
        x.years(9);
        x.forget();
        x.market(99, 99);
        x.see(0, 0, 100);
        tell(x, "x");
        tape(x, "y");
        due("restore", x.restore() ? 1 : 0, 1);
        for (int what = 0; what < 16; what++) {
            due("count " + what, x.count(what), what == 12 ? 20 : counts[what]);
        }
        stores(x, stores);
        shares(x, plots);
        due("place", x.house(2, 6), 0);
        due("fault", x.fault(), 0);
        due("undo", x.undo(), 5);
        due("year", x.count(4), 0);
        due("again", x.restore() ? 1 : 0, 1);
        due("year", x.count(4), 2);
        due("acts", x.count(10), 6);
    }
}
