/** Each sentence about how things are, shares, years and acts that names a boundary case. */
public final class SonsLotEdgesOfActs extends Due {
    private static final int[] OUT_OF_THREE = {-1, 3, 4, 7, 8, 9, 32, LEAST, MOST, LEAST + 1};

    public static void main(String[] args) {
        countAnotherWhat();
        countAtItsMost();
        noSuchHouse();
        houseAnotherWhat();
        noSuchPlot();
        plotAnotherWhat();
        whoseShare();
        walkOfBoth();
        worthOfNoSuch();
        worthWithoutRule();
        yearOfHarvest();
        harvestWithoutRule();
        harvestIsKept();

        likeSharesTheLeast();
        noneIsLeft();
        worthAtTheLeast();
        takenAnew();
        exchangeLasts();

        withoutAShare();
        storeAtTheMost();
        lessATenth();
        eatsFromIt();
        goneAndHisShare();
        goneHarvestsNothing();
        yearIsOneMore();

        lotsBySeed();
        lotsAllAnew();
        turnAsItIsThen();
        turnOfNoSuch();
        turnCurses();
        orderPutInThere();
        orderTheSamePlace();
        orderNoSuchPlace();
        exchangeWithNone();
        exchangeBothAreOne();
        marketIsMoved();
        marketNotSoFar();
        yearsOneToThirty();
        yearsAbove999();
        undoNone();
        undoLastOneFirst();
        undoAtMost40();
        undoAndActAgain();
        refusedActsAreNotKept();
        end();
    }

    // ---- how things are

    private static void countAnotherWhat() {
        sentence(5, "NoSuchElementException: another what");
        for (int what : new int[] {-1, 16, 17, LEAST, MOST}) {
            noSuch("count(" + what + ")", x -> x.count(what));
        }
        SonsLot empty = new SonsLot();
        none("count(16) of no island", () -> empty.count(16));
    }

    private static void countAtItsMost() {
        sentence(5, "0 HOUSES, 1 PLOTS, .. 13 to 15 STATUS 0 to 2");
        SonsLot x = of(houses(8) + plots(9) + "market 20 20;rain 9;eats 20;yields 0;");
        x.years(1);
        counts(x, 8, 9, 2020, 20, 1, 9, 255, 0, 0, 0, 1, 0, 0, 0, 0, 0);
        for (int h = 0; h < 8; h++) {
            x.turn(h);
        }
        due("lots", x.count(9), 255);
        due("curses", x.count(8), 8);
        for (int i = 0; i < 10; i++) {
            x.see(0, i, 0);
            x.market(21, 0);
        }
        tape(x, " ".repeat(700));
        counts(x, 8, 9, 2020, 20, 1, 9, 255, 0, 8, 255, 9, 8, 700, 0, 10, 2);
        sentence(5, "7 TITHE so far");
        SonsLot rich = of(houses(8) + plots(9) + "yields 99;");
        rich.years(30);
        due("of eight in thirty years", rich.count(7), 8 * 30 * 9);
    }

    private static void noSuchHouse() {
        sentence(6, "NoSuchElementException: no such HOUSE (as everywhere)");
        for (int house : OUT_OF_THREE) {
            noSuch("house(" + house + ", 0)", x -> x.house(house, 0));
            noSuch("worth(" + house + ", 0)", x -> x.worth(house, 0));
            noSuch("harvest(" + house + ", 0, 0)", x -> x.harvest(house, 0, 0));
            noSuch("turn(" + house + ")", x -> x.turn(house));
            noSuch("order(" + house + ", 0)", x -> x.order(house, 0));
            noSuch("exchange(" + house + ", 0)", x -> x.exchange(house, 0) ? 1 : 0);
            noSuch("exchange(0, " + house + ")", x -> x.exchange(0, house) ? 1 : 0);
            noSuch("then(" + house + ", 0)", x -> x.then(house, 0));
            noSuch("starves(" + house + ")", x -> x.starves(house));
            noSuch("without(" + house + ", 0)", x -> x.without(house, 0));
            noSuch("without(0, " + house + ")", x -> x.without(0, house));
            noSuch("lastPlace(" + house + ")", x -> x.lastPlace(house));
            noSuch("bushels(" + house + ", 0)", x -> x.bushels(house, 0));
            noSuch("see(" + house + ", 0, 0)", x -> x.see(house, 0, 0));
            noSuch("look(" + house + ", 0)", x -> x.look(house, 0));
            noSuch("game(" + house + ", 0, 0, 0)", x -> x.game(house, 0, 0, 0));
            noSuch("game(0, " + house + ", 0, 0)", x -> x.game(0, house, 0, 0));
        }
        SonsLot eight = of(houses(8));
        due("the last of eight", eight.house(7, 2), 1);
        none("the ninth", () -> eight.house(8, 2));
    }

    private static void houseAnotherWhat() {
        sentence(6, "NoSuchElementException: no such .. what");
        for (int what : new int[] {-1, 8, 9, LEAST, MOST}) {
            noSuch("house(0, " + what + ")", x -> x.house(0, what));
        }
        SonsLot x = of(THREE);
        int[] due = {4, 4, 2, 0, 2, 0, 2, 3};
        for (int what = 0; what < 8; what++) {
            due("house(2, " + what + ")", x.house(2, what), due[what]);
        }
    }

    private static void noSuchPlot() {
        sentence(7, "NoSuchElementException: no such PLOT (as everywhere)");
        for (int plot : OUT_OF_THREE) {
            noSuch("plot(" + plot + ", 0)", x -> x.plot(plot, 0));
            noSuch("worth(0, " + plot + ")", x -> x.worth(0, plot));
            noSuch("harvest(0, " + plot + ", 0)", x -> x.harvest(0, plot, 0));
            noSuch("game(0, 1, " + plot + ", 0)", x -> x.game(0, 1, plot, 0));
        }
        SonsLot nine = of(plots(9));
        due("the last of nine", nine.plot(8, 0), 8);
        none("the tenth", () -> nine.plot(9, 0));
    }

    private static void plotAnotherWhat() {
        sentence(7, "NoSuchElementException: no such .. what");
        for (int what : new int[] {-1, 5, 6, LEAST, MOST}) {
            noSuch("plot(0, " + what + ")", x -> x.plot(0, what));
        }
        SonsLot x = of(THREE);
        int[] due = {12, 10, 6, 2, 0};
        for (int what = 0; what < 5; what++) {
            due("plot(1, " + what + ")", x.plot(1, what), due[what]);
        }
    }

    private static void whoseShare() {
        sentence(7, "4 whose share it is (NONE)");
        SonsLot x = of(houses(2) + plots(4));
        int[] whose = {NONE, NONE, 1, 0};
        for (int p = 0; p < 4; p++) {
            due("plot " + p, x.plot(p, 4), whose[p]);
        }
        SonsLot nobody = of(plots(1));
        due("without houses", nobody.plot(0, 4), NONE);
        SonsLot eight = of(houses(8) + plots(9) + "worth 0;");
        for (int p = 0; p < 9; p++) {
            due("plot " + p + " of nine", eight.plot(p, 4), p < 8 ? p : NONE);
        }
        SonsLot gone = of("house 1 1 1;plot 0 0 0;eats 9;");
        gone.years(1);
        due("of who is gone", gone.plot(0, 4), 0);
    }

    private static void walkOfBoth() {
        sentence(7, "WALK from one place to another one is the sum of both differences, of X and of Y");
        SonsLot x = of("plot 0 20 0;plot 20 0 0;plot 10 10 0;");
        int[][] walks = {{0, 0, 20, 20, 20}, {20, 20, 20, 20, 20}, {0, 20, 0, 40, 20}, {20, 0, 40, 0, 20}, {10, 10, 20, 20, 0},
            {9, 12, 17, 23, 3}};
        for (int[] walk : walks) {
            x.market(walk[0], walk[1]);
            for (int p = 0; p < 3; p++) {
                due("walk from plot " + p + " to " + walk[0] + " " + walk[1], x.plot(p, 3), walk[2 + p]);
            }
        }
    }

    private static void worthOfNoSuch() {
        sentence(8, "WORTH of a PLOT to a SETTLER: no such HOUSE, no such PLOT");
        noSuch("worth(3, 3)", x -> x.worth(3, 3));
        noSuch("worth(-1, -1)", x -> x.worth(-1, -1));
        SonsLot x = of(houses(8) + plots(9));
        due("the last ones", x.worth(7, 8), -12);
    }

    private static void worthWithoutRule() {
        sentence(8, "(without one: 2 by WATER less WALK)");
        due("the least", of("house 1 1 1;plot 0 0 0;market 20 20;").worth(0, 0), -40);
        due("the most", of("house 1 1 1;plot 0 0 9;market 0 0;").worth(0, 0), 18);
        SonsLot x = of("house 1 1 1;plot 5 5 9;worth 1;");
        due("by the rule", x.worth(0, 0), 1);
        tell(x, "house 1 1 1;plot 5 5 9;");
        due("the rule that was is gone", x.worth(0, 0), 8);
    }

    private static void yearOfHarvest() {
        sentence(9, "IllegalArgumentException (behind NoSuchElementException): not 0 to 999");
        for (int year : new int[] {-1, 1000, LEAST, MOST}) {
            notLegal("harvest(0, 0, " + year + ")", x -> x.harvest(0, 0, year));
            noSuch("harvest(3, 0, " + year + ")", x -> x.harvest(3, 0, year));
            noSuch("harvest(0, 3, " + year + ")", x -> x.harvest(0, 3, year));
            noSuch("harvest(-1, -1, " + year + ")", x -> x.harvest(-1, -1, year));
        }
        SonsLot x = of("house 1 1 1;plot 0 0 0;yields (year=0)*7+(year=999)*8;");
        due("year 0", x.harvest(0, 0, 0), 7);
        due("year 999", x.harvest(0, 0, 999), 8);
        due("year 998", x.harvest(0, 0, 998), 0);
    }

    private static void harvestWithoutRule() {
        sentence(9, "what YIELDS gives (without one WATER and RAIN)");
        due("the least", of("house 1 1 1;plot 0 0 0;rain 0;").harvest(0, 0, 0), 0);
        due("the most", of("house 1 1 1;plot 0 0 9;rain 9;").harvest(0, 0, 0), 18);
        SonsLot x = of("house 1 1 1;plot 5 5 9;yields 1;");
        due("by the rule", x.harvest(0, 0, 0), 1);
        tell(x, "house 1 1 1;plot 5 5 9;");
        due("the rule that was is gone", x.harvest(0, 0, 0), 12);
    }

    private static void harvestIsKept() {
        sentence(9, "kept to 0 to 99");
        SonsLot up = of("house 1 1 1;plot 0 0 0;yields year;");
        due("98", up.harvest(0, 0, 98), 98);
        due("99", up.harvest(0, 0, 99), 99);
        due("100", up.harvest(0, 0, 100), 99);
        SonsLot down = of("house 1 1 1;plot 0 0 0;yields year-5;");
        due("-1", down.harvest(0, 0, 4), 0);
        due("0", down.harvest(0, 0, 5), 0);
        due("1", down.harvest(0, 0, 6), 1);
        due("at the least", of("house 1 1 1;plot 0 0 0;yields 128*4096*4096;").harvest(0, 0, 0), 0);
        due("at the most", of("house 1 1 1;plot 0 0 0;yields 128*4096*4096-1;").harvest(0, 0, 0), 99);
        SonsLot in = of("house 1 1 1;plot 0 0 0;yields 100;eats 0;");
        in.years(1);
        stores(in, 90);
        due("tithe", in.count(7), 9);
        SonsLot out = of("house 1 1 1;plot 0 0 0;yields 0-50;eats 0;");
        out.years(1);
        stores(out, 0);
        due("tithe", out.count(7), 0);
    }

    // ---- shares

    private static void likeSharesTheLeast() {
        sentence(6, "each SETTLER has of PLOTS that are left the one of most WORTH (of like ones the least)");
        shares(of(houses(8) + plots(9) + "worth 0;"), 0, 1, 2, 3, 4, 5, 6, 7);
        shares(of(houses(3) + plots(9) + "worth water;"), 0, 1, 2);
        shares(of(houses(2) + "plot 0 0 1;plot 1 0 2;plot 2 0 2;plot 3 0 1;worth water;"), 1, 2);
        shares(of(houses(4) + "plot 0 0 1;plot 1 0 2;plot 2 0 2;plot 3 0 1;worth water;"), 1, 2, 0, 3);
    }

    private static void noneIsLeft() {
        sentence(6, "none, if none is left");
        shares(of(houses(8)), NONE, NONE, NONE, NONE, NONE, NONE, NONE, NONE);
        shares(of(houses(3) + plots(1)), 0, NONE, NONE);
        shares(of(houses(3) + plots(3)), 2, 1, 0);
        SonsLot x = of(houses(3) + plots(2));
        shares(x, 1, 0, NONE);
        x.order(2, 0);
        shares(x, 0, NONE, 1);
    }

    private static void worthAtTheLeast() {
        sentence(6, "each SETTLER has a PLOT that is left, be its WORTH the least there is");
        SonsLot x = of(houses(2) + plots(2) + "worth 128*4096*4096;");
        shares(x, 0, 1);
        due("worth", x.worth(0, 0), LEAST);
        due("no envy", x.house(0, 7), 0);
        shares(of("house 1 1 1;plot 0 0 0;plot 1 0 1;worth 128*4096*4096-water;"), 1);
    }

    /** Likes the plot whose water is the settler's strength. */
    private static final String BY_STRENGTH = "house 1 2 0;house 2 1 0;plot 0 0 1;plot 0 1 2;worth water=strength;";

    private static void takenAnew() {
        sentence(10, "SHARES are TAKEN anew by each lot, turn, order, market; an EXCHANGE lasts till then");
        SonsLot x = of(BY_STRENGTH);
        shares(x, 0, 1);
        x.exchange(0, 1);
        shares(x, 1, 0);
        x.lots(0);
        due("no lots that change it", x.count(9), 0);
        shares(x, 0, 1);
        sentence(11, "SHARES are TAKEN anew by each turn; an EXCHANGE lasts till then");
        x.exchange(0, 1);
        x.turn(0);
        shares(x, 1, 0);
        x.turn(0);
        shares(x, 0, 1);
        sentence(12, "SHARES are TAKEN anew by each order; an EXCHANGE lasts till then");
        x.exchange(0, 1);
        x.order(1, 0);
        shares(x, 0, 1);
        sentence(14, "SHARES are TAKEN anew by each market; an EXCHANGE lasts till then");
        x.exchange(0, 1);
        x.market(10, 10);
        shares(x, 0, 1);
    }

    private static void exchangeLasts() {
        sentence(13, "an EXCHANGE lasts till then: not years, questions, sights, an image, a call that is refused end it");
        SonsLot x = of(BY_STRENGTH + "eats 0;");
        x.exchange(0, 1);
        x.years(30);
        x.see(0, 0, 0);
        x.forget();
        x.image();
        x.change(1);
        x.without(0, 1);
        x.lastPlace(0);
        x.founders(1, 1, 0);
        x.best(NONE);
        x.order(0, 9);
        x.market(21, 21);
        x.exchange(0, 0);
        tell(x, "x");
        shares(x, 1, 0);
        x.restore();
        shares(x, 1, 0);
        x.turn(0);
        x.undo();
        shares(x, 1, 0);
    }

    // ---- years

    private static void withoutAShare() {
        sentence(15, "without a share 0");
        SonsLot x = of(houses(2) + plots(1) + "yields 50;eats 0;");
        x.years(2);
        stores(x, 90, 0);
        due("tithe", x.count(7), 10);
        due("gone", x.count(6), 0);
        SonsLot y = of(houses(2) + plots(1) + "yields 50;eats 1;");
        y.years(1);
        due("gone", y.count(6), 2);
    }

    private static void storeAtTheMost() {
        sentence(15, "to the STORE (0 at first, 999 at most)");
        SonsLot x = of("house 1 1 1;plot 0 0 0;yields 99*(year<11)+8*(year=11)+(11<year);eats 0;");
        stores(x, 0);
        x.years(11);
        stores(x, 990);
        x.years(1);
        stores(x, 998);
        x.years(1);
        stores(x, 999);
        x.years(1);
        stores(x, 999);
        sentence(15, "999 at most, then he eats EATS from it");
        SonsLot y = of("house 1 1 1;plot 0 0 0;yields 99;eats 20;");
        y.years(30);
        stores(y, 979);
        due("the tithe is not less for that", y.count(7), 270);
        y.years(1);
        stores(y, 979);
    }

    private static void lessATenth() {
        sentence(15, "comes what he harvests, less a tenth, cut down (that is the TITHE)");
        int[] harvests = {0, 1, 9, 10, 11, 19, 20, 89, 90, 98, 99};
        int[] tithes = {0, 0, 0, 1, 1, 1, 2, 8, 9, 9, 9};
        for (int i = 0; i < harvests.length; i++) {
            SonsLot x = of("house 1 1 1;plot 0 0 0;eats 0;yields " + harvests[i] + ";");
            due("years", x.years(1), 1);
            stores(x, harvests[i] - tithes[i]);
            due("tithe of " + harvests[i], x.count(7), tithes[i]);
        }
        SonsLot each = of(houses(2) + plots(2) + "eats 0;yields 15;");
        each.years(2);
        due("of each harvest by itself", each.count(7), 4);
        stores(each, 28, 28);
    }

    private static void eatsFromIt() {
        sentence(15, "then he eats EATS from it; if it is less, it is 0, and he is GONE");
        SonsLot enough = of("house 1 1 1;plot 0 0 0;yields 22;eats 20;");
        enough.years(1);
        stores(enough, 0);
        due("as much is enough", enough.count(6), 0);
        SonsLot less = of("house 1 1 1;plot 0 0 0;yields 21;eats 20;");
        less.years(1);
        stores(less, 0);
        due("one less", less.count(6), 1);
        due("he gave the tithe", less.count(7), 2);
        SonsLot nothing = of("house 1 1 1;eats 0;");
        nothing.years(30);
        due("who eats nothing is not gone", nothing.count(6), 0);
        SonsLot one = of("house 1 1 1;eats 1;");
        one.years(1);
        due("nothing is less than 1", one.count(6), 1);
        SonsLot stored = of("house 1 1 1;plot 0 0 0;yields 9*(year=0);eats 3;");
        stored.years(1);
        stores(stored, 6);
        stored.years(2);
        stores(stored, 0);
        due("from what is stored", stored.count(6), 0);
        stored.years(1);
        due("then no more", stored.count(6), 1);
    }

    private static void goneAndHisShare() {
        sentence(15, "he is GONE (his share stays as it is, nobody harvests there)");
        SonsLot x = of(houses(2) + plots(2) + "yields 30*(year<1);eats 20;");
        x.years(3);
        due("both are gone", x.count(6), 3);
        shares(x, 1, 0);
        due("none is free", x.free(), 0);
        SonsLot one = of("house 0 0 0;house 1 1 1;plot 10 10 9;plot 0 0 0;yields 50*strength;");
        one.years(1);
        due("the first is gone", one.count(6), 1);
        due("tithe", one.count(7), 5);
        one.years(5);
        shares(one, 0, 1);
        due("tithe of the other one alone", one.count(7), 30);
        stores(one, 0, 6 * 41);
    }

    private static void goneHarvestsNothing() {
        sentence(15, "Who is GONE harvests nothing, eats nothing, but has a place in the ORDER, and a share");
        SonsLot x = of("house 0 9 0;house 1 1 1;plot 10 10 9;plot 0 0 0;yields 50*strength;");
        x.years(1);
        x.turn(0);
        due("still gone when another brother comes", x.count(6), 1);
        x.years(4);
        stores(x, 0, 5 * 41);
        due("tithe", x.count(7), 25);
        shares(x, 0, 1);
        due("his place", x.house(0, 6), 0);
        due("he comes at another place", x.order(0, 1), 0);
        shares(x, 1, 0);
        x.lots(1);
        x.market(0, 0);
        due("still gone", x.count(6), 1);
        shares(x, 0, 1);
        x.exchange(0, 1);
        shares(x, 1, 0);
    }

    private static void yearIsOneMore() {
        sentence(15, "A YEAR (YEAR 0 is the first) .. The YEAR is one more then");
        SonsLot x = of("house 1 1 1;plot 0 0 0;eats 0;yields 7*(year=0)+1;");
        due("the first", x.count(4), 0);
        due("years", x.years(1), 1);
        stores(x, 8);
        due("years", x.years(2), 3);
        stores(x, 10);
        due("year", x.count(4), 3);
    }

    // ---- acts

    /** Reckoned with longs alone. */
    private static int drawn(int seed, int houses) {
        long where = seed & 0xffffffffL;
        int bits = 0;
        for (int h = 0; h < houses; h++) {
            where = (where * 1103515245L + 12345L) % 4294967296L;
            bits |= (int) (where / 65536L % 32768L % 2L) << h;
        }
        return bits;
    }

    private static void lotsBySeed() {
        sentence(10, "A seed becomes itself times 1103515245 and 12345 (an int that wraps)");
        int[] seeds = {0, 1, 2, 3, -1, -2, 65535, 65536, 1 << 30, MOST, LEAST, LEAST + 1, 123456789, -987654321};
        for (int seed : seeds) {
            SonsLot x = of(houses(8));
            due("lots(" + seed + ")", x.lots(seed), drawn(seed, 8));
            due("lots", x.count(9), drawn(seed, 8));
            for (int h = 0; h < 8; h++) {
                due("lot of " + h, x.house(h, 3), drawn(seed, 8) >> h & 1);
            }
        }
        // by hand: 16838 5758 10113 17515 31051 5627 23010 7419
        due("the seed 1", of(houses(8)).lots(1), 0b10111100);
        sentence(10, "LOTS are DRAWN by a DRAW of 2 for each HOUSE");
        for (int many = 0; many <= 8; many++) {
            due("of " + many, of(houses(many)).lots(1), 0b10111100 & (1 << many) - 1);
        }
    }

    private static void lotsAllAnew() {
        sentence(10, "LOTS are DRAWN by a seed (all anew)");
        SonsLot x = of(houses(8));
        x.turn(0);
        x.turn(2);
        due("lots", x.lots(1), 188);
        due("lots again", x.lots(1), 188);
        due("curses stay", x.count(8), 2);
        due("acts", x.count(10), 4);
        due("undo", x.undo(), 3);
        due("lots", x.count(9), 188);
        due("undo", x.undo(), 2);
        due("lots", x.count(9), 5);
        SonsLot nobody = new SonsLot();
        due("without houses", nobody.lots(77), 0);
        due("an act all the same", nobody.count(10), 1);
    }

    private static void turnAsItIsThen() {
        sentence(11, "A lot is TURNED: as it is then");
        SonsLot x = of(houses(8));
        for (int h = 7; h >= 0; h--) {
            due("turn", x.turn(h), 1);
            due("this lot alone", x.count(9), 256 - (1 << h));
        }
        for (int h = 0; h < 8; h++) {
            due("turn back", x.turn(h), 0);
            due("this lot alone", x.count(9), 255 & ~((2 << h) - 1));
        }
    }

    private static void turnOfNoSuch() {
        sentence(11, "turn: NoSuchElementException, which is no ACT that is refused");
        SonsLot x = of(houses(2));
        none("turn(2)", () -> x.turn(2));
        none("turn(-1)", () -> x.turn(-1));
        counts(x, 2, 0, 1010, 4, 0, 3, 0, 0, 0, 0, 0, 0, 0, 0, 0, 0);
    }

    private static void turnCurses() {
        sentence(11, "(who comes back is cursed: one CURSE more)");
        SonsLot x = of(houses(2));
        for (int i = 1; i <= 50; i++) {
            x.turn(i % 2);
            due("curses", x.count(8), i);
        }
        x.undo();
        due("curses", x.count(8), 49);
        x.lots(5);
        due("lots curse nobody", x.count(8), 49);
    }

    private static void orderPutInThere() {
        sentence(12, "one comes at another place of the ORDER (taken out of it, put in there)");
        for (int house = 0; house < 4; house++) {
            for (int place = 0; place < 4; place++) {
                SonsLot x = of(houses(4) + plots(4));
                due("order(" + house + ", " + place + ")", x.order(house, place), house);
                int[] due = new int[4];
                due[house] = place;
                for (int h = 0; h < 4; h++) {
                    int rest = h < house ? h : h - 1;
                    if (h != house) {
                        due[h] = rest < place ? rest : rest + 1;
                    }
                }
                places(x, due);
                for (int h = 0; h < 4; h++) {
                    due("share of who comes at " + due[h], x.house(h, 4), 3 - due[h]);
                }
            }
        }
        SonsLot eight = of(houses(8));
        due("the first behind all", eight.order(0, 7), 0);
        places(eight, 7, 0, 1, 2, 3, 4, 5, 6);
        due("the last ahead of all", eight.order(0, 0), 7);
        places(eight, 0, 1, 2, 3, 4, 5, 6, 7);
    }

    private static void orderTheSamePlace() {
        sentence(12, "(the same place, too)");
        SonsLot x = of(THREE);
        x.exchange(0, 1);
        for (int h = 0; h < 3; h++) {
            due("order", x.order(h, h), h);
            places(x, 0, 1, 2);
        }
        shares(x, 1, 0, 2);
        due("acts", x.count(10), 4);
        due("STATUS", x.count(14), 0);
    }

    private static void orderNoSuchPlace() {
        sentence(12, "NONE (STATUS 1): no such place");
        for (int place : OUT_OF_THREE) {
            changesNothing("order(0, " + place + ")", x -> x.order(0, place), NONE, 1);
            noSuch("order(3, " + place + ")", x -> x.order(3, place));
        }
        SonsLot eight = of(houses(8));
        due("the last place", eight.order(0, 7), 0);
        due("behind it", eight.order(0, 8), NONE);
        SonsLot one = of(houses(1));
        due("the only place", one.order(0, 0), 0);
        due("behind it", one.order(0, 1), NONE);
    }

    private static void exchangeWithNone() {
        sentence(13, "two EXCHANGE shares (a share with none, too)");
        SonsLot x = of(houses(4) + plots(2));
        shares(x, 1, 0, NONE, NONE);
        due("with none", x.exchange(0, 3), true);
        shares(x, NONE, 0, NONE, 1);
        due("none with one", x.exchange(0, 1), true);
        shares(x, 0, NONE, NONE, 1);
        due("none with none", x.exchange(1, 2), true);
        shares(x, 0, NONE, NONE, 1);
        due("one with one", x.exchange(3, 0), true);
        shares(x, 1, NONE, NONE, 0);
        due("acts", x.count(10), 4);
        due("whose", x.plot(0, 4), 3);
        due("whose", x.plot(1, 4), 0);
    }

    private static void exchangeBothAreOne() {
        sentence(13, "False (STATUS 1): both are one");
        for (int house = 0; house < 3; house++) {
            int h = house;
            changesNothing("exchange of one", x -> x.exchange(h, h) ? 1 : 0, 0, 1);
        }
        noSuch("no such house ahead", x -> x.exchange(3, 3) ? 1 : 0);
        noSuch("no such house ahead", x -> x.exchange(-1, -1) ? 1 : 0);
    }

    private static void marketIsMoved() {
        sentence(14, "The MARKET is moved: 100 by Y as it was, and X");
        SonsLot x = new SonsLot();
        int[][] corners = {{0, 0}, {20, 0}, {0, 20}, {20, 20}, {20, 20}, {7, 13}};
        int was = 1010;
        for (int[] corner : corners) {
            due("market", x.market(corner[0], corner[1]), was);
            was = 100 * corner[1] + corner[0];
            due("market then", x.count(2), was);
        }
        due("acts", x.count(10), 6);
    }

    private static void marketNotSoFar() {
        sentence(14, "NONE (STATUS 1): not 0 to 20");
        for (int off : new int[] {-1, 21, 100, LEAST, MOST}) {
            changesNothing("market(" + off + ", 0)", x -> x.market(off, 0), NONE, 1);
            changesNothing("market(20, " + off + ")", x -> x.market(20, off), NONE, 1);
            changesNothing("market of both " + off, x -> x.market(off, off), NONE, 1);
        }
    }

    private static void yearsOneToThirty() {
        sentence(15, "NONE (STATUS 1): not 1 to 30");
        for (int many : new int[] {0, 31, -1, 1000, LEAST, MOST, MOST - 1}) {
            changesNothing("years(" + many + ")", x -> x.years(many), NONE, 1);
        }
        SonsLot x = of(THREE);
        due("one", x.years(1), 1);
        due("thirty", x.years(30), 31);
        due("one act each", x.count(10), 2);
    }

    private static void yearsAbove999() {
        sentence(15, "NONE (STATUS 1): it would be above 999");
        SonsLot x = of(THREE);
        for (int i = 0; i < 32; i++) {
            x.years(30);
        }
        due("970", x.years(10), 970);
        due("1000", x.years(30), NONE);
        due("year", x.count(4), 970);
        due("acts", x.count(10), 33);
        due("998", x.years(28), 998);
        due("1000", x.years(2), NONE);
        due("999", x.years(1), 999);
        due("1000", x.years(1), NONE);
        due("STATUS", x.count(14), 3);
        due("year", x.count(4), 999);
        due("undo", x.undo(), 34);
        due("year", x.count(4), 998);
        due("999 by 1", x.years(1), 999);
        due("undo", x.undo(), 34);
        due("undo", x.undo(), 33);
        due("1000 by 30", x.years(30), NONE);
        due("999 by 29", x.years(29), 999);
        sentence(22, "if only YEARS go by, from now on: in so many YEARS (0 to 50), above 999, too");
        SonsLot late = of("house 1 1 1;plot 0 0 0;eats 0;rain 1 2;yields year-999+rain;");
        for (int i = 0; i < 33; i++) {
            late.years(30);
        }
        late.years(9);
        due("year", late.count(4), 999);
        due("in a year", late.then(0, 1), 2);
        due("in two", late.then(0, 2), 4);
        due("in fifty", late.bushels(0, 50), 49 * 25 + 75);
    }

    // ---- undone

    private static void undoNone() {
        sentence(16, "NONE: there is none");
        SonsLot x = of(THREE);
        for (int i = 0; i < 3; i++) {
            due("undo", x.undo(), NONE);
        }
        counts(x, 3, 3, 1010, 4, 0, 3, 0, 0, 0, 0, 0, 0, 0, 0, 0, 0);
        x.turn(0);
        due("undo", x.undo(), 0);
        due("undo", x.undo(), NONE);
        counts(x, 3, 3, 1010, 4, 0, 3, 0, 0, 0, 0, 0, 0, 0, 0, 0, 0);
        shares(x, 1, 0, 2);
    }

    private static void undoLastOneFirst() {
        sentence(16, "They are UNDONE, the last one first");
        SonsLot x = of(THREE + "yields 9*(strength<5);");
        x.turn(1);
        x.order(2, 0);
        x.exchange(0, 1);
        x.market(0, 0);
        x.years(3);
        x.lots(1);
        due("lots are undone", x.undo(), 5);
        counts(x, 3, 3, 0, 4, 3, 3, 3, 0, 1, 2, 5);
        stores(x, 0, 0, 15);
        due("years are undone", x.undo(), 4);
        counts(x, 3, 3, 0, 4, 0, 3, 0, 0, 1, 2, 4);
        stores(x, 0, 0, 0);
        shares(x, 1, 0, 2);
        due("a market is undone", x.undo(), 3);
        counts(x, 3, 3, 1010, 4, 0, 3, 0, 0, 1, 2, 3);
        shares(x, 2, 0, 1);
        due("an exchange is undone", x.undo(), 2);
        shares(x, 0, 2, 1);
        due("an order is undone", x.undo(), 1);
        places(x, 0, 1, 2);
        shares(x, 1, 0, 2);
        due("a turn is undone", x.undo(), 0);
        counts(x, 3, 3, 1010, 4, 0, 3, 0, 0, 0, 0, 0);
        SonsLot rich = of(houses(2) + plots(2) + "yields 50;");
        rich.years(1);
        rich.turn(1);
        rich.years(2);
        rich.turn(1);
        due("tithe", rich.count(7), 30);
        due("curses", rich.count(8), 2);
        due("a turn is undone", rich.undo(), 3);
        counts(rich, 2, 2, 1010, 4, 3, 3, 0, 30, 1, 2, 3);
        due("years are undone", rich.undo(), 2);
        counts(rich, 2, 2, 1010, 4, 1, 3, 0, 10, 1, 2, 2);
        stores(rich, 41, 41);
        due("a turn is undone", rich.undo(), 1);
        counts(rich, 2, 2, 1010, 4, 1, 3, 0, 10, 0, 0, 1);
        due("years are undone", rich.undo(), 0);
        counts(rich, 2, 2, 1010, 4, 0, 3, 0, 0, 0, 0, 0);
        stores(rich, 0, 0);
    }

    private static void undoAtMost40() {
        sentence(16, "ACTS (at most 40 are kept, the latest ones)");
        for (int many : new int[] {1, 39, 40, 41, 42, 79, 80, 81, 120}) {
            SonsLot x = of(THREE);
            for (int i = 1; i <= many; i++) {
                due("market", x.market(i % 21, i / 21), i == 1 ? 1010 : (i - 1) / 21 * 100 + (i - 1) % 21);
                due("acts", x.count(10), Math.min(i, 40));
            }
            int kept = Math.min(many, 40);
            for (int i = 1; i <= kept; i++) {
                due("undo", x.undo(), kept - i);
                int was = many - i;
                due("market", x.count(2), was == 0 ? 1010 : was / 21 * 100 + was % 21);
            }
            due("no more", x.undo(), NONE);
            due("acts", x.count(10), 0);
        }
    }

    private static void undoAndActAgain() {
        sentence(16, "The last ACT is UNDONE: how many are left, and more can come then");
        SonsLot x = of(THREE);
        for (int i = 0; i < 45; i++) {
            x.years(1);
        }
        for (int i = 39; i >= 30; i--) {
            due("undo", x.undo(), i);
        }
        due("year", x.count(4), 35);
        for (int i = 0; i < 12; i++) {
            x.years(2);
        }
        due("year", x.count(4), 59);
        due("acts", x.count(10), 40);
        for (int i = 0; i < 12; i++) {
            due("undo", x.undo(), 39 - i);
            due("year", x.count(4), 57 - 2 * i);
        }
        for (int i = 0; i < 28; i++) {
            due("undo", x.undo(), 27 - i);
            due("year", x.count(4), 34 - i);
        }
        due("undo", x.undo(), NONE);
        due("year", x.count(4), 7);
    }

    private static void refusedActsAreNotKept() {
        sentence(16, "ACTS that are kept: not those that were refused; what is SEEN and STATUS are not UNDONE");
        SonsLot x = of(THREE);
        x.turn(0);
        x.years(31);
        x.market(0, 21);
        x.order(0, 3);
        x.exchange(2, 2);
        x.see(0, 0, 0);
        x.see(0, 0, 100);
        due("acts", x.count(10), 1);
        due("undo", x.undo(), 0);
        counts(x, 3, 3, 1010, 4, 0, 3, 0, 0, 0, 0, 0, 1, 0, 0, 4, 1);
        due("undo", x.undo(), NONE);
    }
}
