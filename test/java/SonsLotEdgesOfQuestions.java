/** Each sentence about envy, better shares, years to come and lots to come that names a boundary case. */
public final class SonsLotEdgesOfQuestions extends Due {
    private static final int[] NOT_0_TO_50 = {-1, 51, 52, LEAST, MOST};

    public static void main(String[] args) {
        envyOfMore();
        envyOfWhoHasNone();
        ringNone();
        ringOfTwoToEight();
        ringOfTheFewest();
        bestHowMuch();
        bestOfNoSuch();
        bestGivesAllItCan();
        bestFirstRow();
        bestNoneBehindAll();
        bestBeyondInts();
        fairestAnotherWhat();
        fairestNone();
        fairestHowMuch();
        tribesNoneInOne();
        tribesOfMany();
        middleOfLikeOnes();
        middleAtTheEdge();
        middleWithoutShares();

        thenZeroToFifty();
        thenAtItsEdges();
        starvesWhen();
        starvesNone();
        tithesZeroToFifty();
        tithesAllTogether();
        holdsOutWhen();
        holdsOutOfThoseWhoArent();
        famineZeroToFifty();
        famineThoseNowToo();
        bushelsZeroToFifty();
        bushelsWhenGone();
        richestZeroToFifty();
        richestOfLikeOnes();

        lotsForNoSuch();
        lotsForSoMuchOrMore();
        lotsForYounger();
        changeOneToTwenty();
        changeIfItIsMore();
        changeOfLikeOnes();
        changeTakesSharesAnew();
        enviedAnotherWhat();
        enviedNone();
        enviedOfLikeOnes();
        withoutBothAreOne();
        withoutHim();
        lastPlaceNoLess();
        lastPlaceNoneIsLess();
        freeBits();
        questionsChangeNothing();
        callsUpTo512();
        end();
    }

    // ---- envy

    private static void envyOfMore() {
        sentence(6, "a SETTLER ENVIES another one who has a share, if that has more WORTH to him than his own");
        SonsLot like = of(houses(3) + plots(3) + "worth 7;");
        for (int h = 0; h < 3; h++) {
            due("like ones", like.house(h, 7), 0);
        }
        SonsLot x = of(houses(3) + plots(3));
        int[] envy = {0, 1, 3};
        for (int h = 0; h < 3; h++) {
            due("who came ahead", x.house(h, 7), envy[h]);
        }
        SonsLot ends = of(houses(2) + "plot 0 0 0;plot 0 1 1;worth 128*4096*4096-water;");
        due("the least beside the most", ends.house(1, 7), 1);
        due("the most beside the least", ends.house(0, 7), 0);
        SonsLot gone = of(houses(2) + plots(2) + "eats 20;");
        gone.years(1);
        due("both are gone", gone.count(6), 3);
        due("who is gone has a share, and envies", gone.house(1, 7), 1);
    }

    private static void envyOfWhoHasNone() {
        sentence(6, "or he has none");
        SonsLot x = of(houses(8) + plots(2) + "worth 128*4096*4096;");
        due("who has one", x.house(0, 7), 0);
        due("who has one", x.house(1, 7), 0);
        for (int h = 2; h < 8; h++) {
            due("who has none", x.house(h, 7), 3);
        }
        SonsLot nobody = of(houses(8));
        for (int h = 0; h < 8; h++) {
            due("none has one", nobody.house(h, 7), 0);
        }
        SonsLot one = of(houses(1));
        due("alone", one.house(0, 7), 0);
    }

    private static void ringNone() {
        sentence(17, "A RING; NONE: none");
        due("no houses", new SonsLot().ring(), NONE);
        due("one house", of(houses(1) + plots(2)).ring(), NONE);
        due("no plots", of(houses(8)).ring(), NONE);
        due("like ones", of(houses(8) + plots(9) + "worth 0;").ring(), NONE);
        due("envy without a ring", of(houses(8) + plots(9)).ring(), NONE);
        due("who has what he likes", of(EIGHT_TASTES).ring(), NONE);
        SonsLot x = of(houses(2) + plots(1));
        due("who has none", x.ring(), NONE);
        x.exchange(0, 1);
        due("who has none", x.ring(), NONE);
    }

    private static void ringOfTwoToEight() {
        sentence(17, "each would rather have the next one's share, the last one the first one's: how many (2 at least)");
        SonsLot x = of(EIGHT_TASTES);
        for (int h = 0; h < 7; h++) {
            x.exchange(h, h + 1);
            due("ring", x.ring(), h + 2);
        }
        for (int h = 7; h > 0; h--) {
            due("ring", x.ring(), h + 1);
            x.undo();
        }
        due("none", x.ring(), NONE);
    }

    private static void ringOfTheFewest() {
        sentence(17, "the fewest SETTLERS");
        SonsLot x = of(EIGHT_TASTES);
        x.exchange(0, 1);
        x.exchange(1, 2);
        x.exchange(2, 3);
        due("four", x.ring(), 4);
        x.exchange(4, 5);
        x.exchange(5, 6);
        due("three of the last ones", x.ring(), 3);
        x.undo();
        due("two of the last ones", x.ring(), 2);
        SonsLot last = of(EIGHT_TASTES);
        last.exchange(6, 7);
        due("the last two", last.ring(), 2);
    }

    // ---- better shares

    private static void bestHowMuch() {
        sentence(18, "THE BEST SHARES: how much (house NONE)");
        due("no houses, no plots", new SonsLot().best(NONE), 0);
        due("no plots", of(houses(8)).best(NONE), 0);
        due("no houses", of(plots(9)).best(NONE), 0);
        due("all have what they like", of(EIGHT_TASTES).best(NONE), 8);
        SonsLot x = of(EIGHT_TASTES);
        x.exchange(0, 7);
        due("as shares could be, not as they are", x.best(NONE), 8);
        x.turn(3);
        due("of who went", x.best(NONE), 7);
    }

    private static void bestOfNoSuch() {
        sentence(18, "NoSuchElementException: no such HOUSE");
        for (int house : new int[] {-2, 3, 8, LEAST, MOST}) {
            noSuch("best(" + house + ")", x -> x.best(house));
        }
        SonsLot empty = new SonsLot();
        none("best(0) of no island", () -> empty.best(0));
        SonsLot eight = of(houses(8) + plots(9));
        due("the last", eight.best(7), 8);
        none("behind the last", () -> eight.best(8));
    }

    private static void rowOfBest(String text, long most, int... row) {
        SonsLot x = of(text);
        due("most of " + text, x.best(NONE), most);
        for (int h = 0; h < row.length; h++) {
            due("plot of " + h + " of " + text, x.best(h), row[h]);
        }
    }

    private static void bestGivesAllItCan() {
        sentence(18, "all PLOTS, or as many as there are SETTLERS, are given to SETTLERS, one each");
        rowOfBest(houses(3) + "plot 0 0 5;worth 0-water;", -5, 0, NONE, NONE);
        rowOfBest(houses(1) + "plot 0 0 5;plot 0 1 2;plot 0 2 3;worth 0-water;", -2, 1);
        rowOfBest(houses(2) + "plot 0 0 5;plot 0 1 2;plot 0 2 3;worth 0-water;", -5, 1, 2);
        rowOfBest(houses(3) + "plot 0 0 5;plot 0 1 2;plot 0 2 3;worth 0-water;", -10, 0, 1, 2);
        rowOfBest(houses(4) + "plot 0 0 5;plot 0 1 2;plot 0 2 3;worth 0-water;", -10, 0, 1, 2, NONE);
    }

    private static void bestFirstRow() {
        sentence(18, "of like ones the first row (by SETTLERS: which PLOT)");
        rowOfBest(houses(8) + plots(9) + "worth 0;", 0, 0, 1, 2, 3, 4, 5, 6, 7);
        rowOfBest(houses(8) + plots(8) + "worth 3;", 24, 0, 1, 2, 3, 4, 5, 6, 7);
        rowOfBest("house 1 1 1;house 5 5 1;plot 0 0 3;plot 0 1 1;worth water+strength;", 10, 0, 1);
        rowOfBest("house 1 1 1;house 5 5 1;plot 0 0 1;plot 0 1 3;plot 0 2 3;worth water+strength;", 12, 1, 2);
        rowOfBest("house 1 1 0;house 1 1 1;plot 0 0 0;plot 0 1 1;worth (tribe=1)*(1-water);", 1, 1, 0);
    }

    private static void bestNoneBehindAll() {
        sentence(18, "none behind all PLOTS");
        rowOfBest(houses(3) + plots(2) + "worth 0;", 0, 0, 1, NONE);
        rowOfBest(houses(8) + plots(1) + "worth 0;", 0, 0, NONE, NONE, NONE, NONE, NONE, NONE, NONE);
        rowOfBest("house 1 1 1;house 2 2 1;house 2 2 1;" + plots(2) + "worth strength;", 4, NONE, 0, 1);
        rowOfBest("house 2 2 1;house 1 1 1;house 2 2 1;" + plots(2) + "worth strength;", 4, 0, NONE, 1);
        rowOfBest("house 2 2 1;house 1 1 1;house 1 1 1;" + plots(2) + "worth strength;", 3, 0, 1, NONE);
        rowOfBest(houses(2), 0, NONE, NONE);
    }

    private static void bestBeyondInts() {
        sentence(18, "most WORTH, all together: how much (a long)");
        due("at the most", of(houses(8) + plots(9) + "worth 128*4096*4096-1;").best(NONE), 8L * MOST);
        due("at the least", of(houses(8) + plots(9) + "worth 128*4096*4096;").best(NONE), 8L * LEAST);
        due("one at the least", of(houses(1) + plots(1) + "worth 128*4096*4096;").best(0), 0);
    }

    private static void fairestAnotherWhat() {
        sentence(19, "NoSuchElementException: another what");
        for (int what : new int[] {-1, 2, 3, LEAST, MOST}) {
            noSuch("fairest(" + what + ")", x -> x.fairest(what));
        }
        SonsLot empty = new SonsLot();
        none("fairest(2) of no island", () -> empty.fairest(2));
    }

    private static void isFairest(String text, int there, int howMuch) {
        SonsLot x = of(text);
        due("whether, of " + text, x.fairest(0), there);
        due("how much, of " + text, x.fairest(1), howMuch);
    }

    private static void fairestNone() {
        sentence(19, "none, if there are fewer PLOTS than SETTLERS, or no SETTLERS (0: none)");
        isFairest("", 0, 0);
        isFairest(plots(9), 0, 0);
        isFairest(houses(1), 0, 0);
        isFairest(houses(8) + plots(7) + "worth 5;", 0, 0);
        isFairest(houses(8) + plots(8) + "worth 5;", 1, 5);
        isFairest(houses(8) + plots(9) + "worth 5;", 1, 5);
        isFairest(houses(1) + plots(1) + "worth 5;", 1, 5);
        isFairest(houses(1) + plots(1) + "worth 0;", 1, 0);
    }

    private static void fairestHowMuch() {
        sentence(19, "the most WORTH that the share of the least content one can have");
        isFairest("house 1 0 0;house 2 0 0;plot 10 10 3;plot 10 11 1;worth strength*water;", 1, 2);
        isFairest(EIGHT_TASTES, 1, 1);
        isFairest(EIGHT_TASTES.replace("water=strength", "water"), 1, 0);
        isFairest("plot 20 20 9;" + EIGHT_TASTES.replace("water=strength", "water"), 1, 1);
        isFairest(houses(2) + "plot 0 0 5;plot 0 1 2;plot 0 2 3;worth 0-water;", 1, -3);
        isFairest(houses(8) + plots(9) + "worth 128*4096*4096;", 1, LEAST);
        isFairest(houses(8) + plots(9) + "worth 128*4096*4096-1;", 1, MOST);
    }

    private static void tribesNoneInOne() {
        sentence(20, "all SETTLERS in three (there may be none in one)");
        due("nobody", new SonsLot().tribes(), 0);
        due("one", of("house 9 0 0;").tribes(), 9);
        due("one without strength", of("house 0 9 0;").tribes(), 0);
        due("two", of("house 5 0 0;house 3 0 0;").tribes(), 5);
        due("two, one without strength", of("house 5 0 0;house 0 0 0;").tribes(), 5);
        due("three", of("house 5 0 0;house 3 0 0;house 4 0 0;").tribes(), 2);
        due("the tribes they had don't count", of("house 3 0 1;house 3 0 1;house 3 0 1;").tribes(), 0);
    }

    private static void tribesOfMany() {
        sentence(20, "the strongest of the three has as little STRENGTH more than the weakest as can be");
        due("eight times 9", of("house 9 1 0;".repeat(8)).tribes(), 9);
        due("eight times 1", of("house 1 9 0;".repeat(8)).tribes(), 1);
        due("1 to 8", of("house 1 0 0;house 2 0 0;house 3 0 0;house 4 0 0;house 5 0 0;house 6 0 0;house 7 0 0;"
            + "house 8 0 0;").tribes(), 0);
        due("9 and 1 seven times", of("house 9 0 0;" + houses(7)).tribes(), 6);
        SonsLot x = of("house 9 0 0;house 1 9 0;house 1 9 0;");
        due("the elders", x.tribes(), 8);
        x.turn(1);
        due("one younger", x.tribes(), 8);
        x.turn(2);
        due("both", x.tribes(), 0);
        SonsLot gone = of("house 9 0 0;");
        gone.years(9);
        due("who is gone, too", gone.tribes(), 9);
    }

    private static void middleOfLikeOnes() {
        sentence(21, "of like ones by the least Y, then X: 100 by Y and X");
        due("in a box", of(houses(2) + "plot 6 4 0;plot 2 8 0;").middle(), 402);
        due("in a row", of(houses(2) + "plot 6 4 0;plot 2 4 0;").middle(), 402);
        due("in a column", of(houses(2) + "plot 6 9 0;plot 6 4 0;").middle(), 406);
        due("of three", of(houses(3) + "plot 1 20 0;plot 7 3 0;plot 20 5 0;").middle(), 507);
        due("of four", of(houses(4) + "plot 1 1 0;plot 5 2 0;plot 9 3 0;plot 13 4 0;").middle(), 205);
    }

    private static void middleAtTheEdge() {
        sentence(21, "the place (X, Y 0 to 20)");
        due("the near corner", of("house 1 1 1;plot 0 0 0;").middle(), 0);
        due("the far corner", of("house 1 1 1;plot 20 20 0;").middle(), 2020);
        due("the last row", of("house 1 1 1;plot 0 20 0;").middle(), 2000);
        due("the last column", of("house 1 1 1;plot 20 0 0;").middle(), 20);
    }

    private static void middleWithoutShares() {
        sentence(21, "from which the sum of WALKS to all shares is least");
        due("no houses, no plots", new SonsLot().middle(), 0);
        due("plots that are no shares", of(plots(9)).middle(), 0);
        due("houses without shares", of(houses(8)).middle(), 0);
        SonsLot x = of(houses(1) + "plot 20 20 0;plot 10 11 0;");
        due("of shares alone", x.middle(), 1110);
        x.market(20, 20);
        due("wherever the market is", x.middle(), 2020);
        SonsLot y = of(houses(2) + "plot 13 14 0;");
        due("who has none does not count", y.middle(), 1413);
        y.years(1);
        due("who is gone does", y.middle(), 1413);
        y.exchange(0, 1);
        due("whose it is does not matter", y.middle(), 1413);
    }

    // ---- if only years go by

    private static void thenZeroToFifty() {
        sentence(22, "IllegalArgumentException (behind NoSuchElementException): not 0 to 50");
        for (int years : NOT_0_TO_50) {
            notLegal("then(0, " + years + ")", x -> x.then(0, years));
            noSuch("then(3, " + years + ")", x -> x.then(3, years));
            noSuch("then(-1, " + years + ")", x -> x.then(-1, years));
        }
    }

    private static void thenAtItsEdges() {
        sentence(22, "THEN: what a SETTLER has in STORE in so many YEARS (0 to 50)");
        SonsLot x = of("house 1 1 1;plot 0 0 0;eats 0;yields 1+(year=49)*5+(year=50)*7;");
        due("in none", x.then(0, 0), 0);
        due("in one", x.then(0, 1), 1);
        due("in 49", x.then(0, 49), 49);
        due("in 50", x.then(0, 50), 55);
        x.years(1);
        due("in none", x.then(0, 0), 1);
        due("from now on", x.then(0, 50), 63);
        due("nothing went by", x.count(4), 1);
        SonsLot most = of("house 1 1 1;plot 0 0 0;yields 99;eats 20;");
        due("at the most", most.then(0, 50), 979);
        SonsLot gone = of("house 1 1 1;plot 0 0 0;");
        due("gone then", gone.then(0, 1), 0);
        due("gone then", gone.then(0, 50), 0);
        gone.years(1);
        due("gone now", gone.then(0, 50), 0);
    }

    /** Harvests 4 and eats 4 till the year, then nothing. */
    private static SonsLot till(int year) {
        return of("house 1 1 1;plot 0 0 0;yields 4*(year<" + year + ");");
    }

    private static void starvesWhen() {
        sentence(23, "STARVES: in which YEAR (1 to 50, the next one 1) a SETTLER is GONE; (0: he is)");
        due("the next one", till(0).starves(0), 1);
        due("the one behind it", till(1).starves(0), 2);
        due("the 49th", till(48).starves(0), 49);
        due("the 50th", till(49).starves(0), 50);
        SonsLot x = till(2);
        for (int due : new int[] {3, 2, 1, 0, 0}) {
            due("starves", x.starves(0), due);
            x.years(1);
        }
        SonsLot without = of(houses(2) + plots(1) + "yields 9;");
        due("without a share", without.starves(1), 1);
    }

    private static void starvesNone() {
        sentence(23, "NONE: none");
        due("the 51st is too late", till(50).starves(0), NONE);
        due("never", of("house 1 1 1;plot 0 0 0;yields 4;").starves(0), NONE);
        due("who eats nothing", of("house 1 1 1;eats 0;").starves(0), NONE);
        SonsLot x = till(50);
        x.years(1);
        due("a year later it is not", x.starves(0), 50);
    }

    private static void tithesZeroToFifty() {
        sentence(24, "IllegalArgumentException: not 0 to 50");
        for (int years : NOT_0_TO_50) {
            notLegal("tithes(" + years + ")", x -> x.tithes(years));
        }
        SonsLot empty = new SonsLot();
        illegal("tithes(51) of no island", () -> empty.tithes(51));
        due("tithes(50) of no island", empty.tithes(50), 0);
    }

    private static void tithesAllTogether() {
        sentence(24, "TITHES in so many YEARS (0 to 50), all together");
        SonsLot x = of(houses(8) + plots(8) + "yields 99;");
        due("in none", x.tithes(0), 0);
        due("in one", x.tithes(1), 72);
        due("in 50", x.tithes(50), 3600);
        x.years(30);
        due("from now on", x.tithes(0), 0);
        due("from now on", x.tithes(1), 72);
        due("so far", x.count(7), 2160);
        SonsLot gone = of("house 1 1 1;plot 0 0 0;yields 19;eats 20;");
        due("in the year in which he is gone, too", gone.tithes(1), 1);
        due("then no more", gone.tithes(50), 1);
        gone.years(1);
        due("nothing of who is gone", gone.tithes(50), 0);
    }

    private static void holdsOutWhen() {
        sentence(25, "HOLDS OUT: in how many YEARS the first one is GONE (1 to 50); NONE: none");
        due("the next one", till(0).holdsOut(), 1);
        due("the 50th", till(49).holdsOut(), 50);
        due("the 51st is too late", till(50).holdsOut(), NONE);
        due("no houses", new SonsLot().holdsOut(), NONE);
        due("never", of(houses(3) + "eats 0;").holdsOut(), NONE);
        due("the first", of(houses(3) + plots(3) + "yields 4*(year<walk-13);").holdsOut(), 6);
    }

    private static void holdsOutOfThoseWhoArent() {
        sentence(25, "the first one .. of those who aren't");
        // the walks are 18, 19, 20: gone in the 5th, the 6th and the 7th year
        SonsLot x = of(houses(3) + plots(3) + "yields 4*(year<walk-14);");
        due("the first", x.holdsOut(), 5);
        x.years(5);
        due("one is gone", x.count(6), 1);
        due("the second", x.holdsOut(), 1);
        x.years(1);
        due("the third", x.holdsOut(), 1);
        x.years(1);
        due("all are gone", x.count(6), 7);
        due("nobody is left", x.holdsOut(), NONE);
    }

    private static void famineZeroToFifty() {
        sentence(31, "IllegalArgumentException: not 0 to 50");
        for (int years : NOT_0_TO_50) {
            notLegal("famine(" + years + ")", x -> x.famine(years));
        }
        due("in 49", till(49).famine(49), 0);
        due("in 50", till(49).famine(50), 1);
        due("behind 50", till(50).famine(50), 0);
    }

    private static void famineThoseNowToo() {
        sentence(31, "how many SETTLERS are GONE in so many YEARS (0 to 50; those who are now, too)");
        SonsLot x = of(houses(8) + plots(8) + "yields 4*(year<walk-12);");
        // walks 20 to 13, gone in the years 9 to 2
        for (int years = 0; years <= 10; years++) {
            due("in " + years, x.famine(years), Math.max(0, Math.min(8, years - 1)));
        }
        x.years(4);
        due("now", x.famine(0), 3);
        due("in one", x.famine(1), 4);
        due("in 50", x.famine(50), 8);
    }

    private static void bushelsZeroToFifty() {
        sentence(32, "IllegalArgumentException (behind NoSuchElementException): not 0 to 50");
        for (int years : NOT_0_TO_50) {
            notLegal("bushels(0, " + years + ")", x -> x.bushels(0, years));
            noSuch("bushels(3, " + years + ")", x -> x.bushels(3, years));
            noSuch("bushels(-1, " + years + ")", x -> x.bushels(-1, years));
        }
        SonsLot x = of("house 1 1 1;plot 0 0 0;yields 99;");
        due("in none", x.bushels(0, 0), 0);
        due("in one", x.bushels(0, 1), 99);
        due("in 50, more than a store holds", x.bushels(0, 50), 4950);
    }

    private static void bushelsWhenGone() {
        sentence(32, "What a SETTLER harvests, if only YEARS go by (nothing when GONE)");
        SonsLot x = of("house 1 1 1;plot 0 0 0;yields 3;");
        due("in the year in which he is gone", x.bushels(0, 1), 3);
        due("then no more", x.bushels(0, 2), 3);
        due("then no more", x.bushels(0, 50), 3);
        x.years(1);
        due("gone", x.bushels(0, 50), 0);
        SonsLot two = of(houses(2) + plots(1) + "yields 7;");
        due("without a share", two.bushels(1, 50), 0);
        due("another one is gone", two.bushels(0, 50), 350);
        SonsLot later = of("house 1 1 1;plot 0 0 0;eats 0;yields year;");
        later.years(5);
        due("from now on", later.bushels(0, 3), 18);
    }

    private static void richestZeroToFifty() {
        sentence(34, "IllegalArgumentException: not 0 to 50");
        for (int years : NOT_0_TO_50) {
            notLegal("richest(" + years + ")", x -> x.richest(years));
        }
        // the second has more from the 50th year on
        SonsLot x = of("house 1 1 1;house 2 2 1;" + plots(2) + "eats 0;yields (strength=1)*(year=0)+9*(strength=2)*(year=49);");
        due("in 49", x.richest(49), 0);
        due("in 50", x.richest(50), 1);
        due("in none", x.richest(0), 0);
    }

    private static void richestOfLikeOnes() {
        sentence(34, "the SETTLER with most in STORE then (of like ones the least); none without");
        due("without houses", new SonsLot().richest(0), NONE);
        due("without houses", of(plots(9)).richest(50), NONE);
        due("all have nothing", of(houses(8)).richest(50), 0);
        due("all have as much", of(houses(8) + plots(8) + "yields 50;").richest(50), 0);
        SonsLot x = of("house 1 1 1;house 3 3 1;house 3 3 1;house 2 2 1;" + plots(4) + "eats 0;yields strength;");
        due("the first of those with most", x.richest(1), 1);
        SonsLot last = of("house 0 0 0;".repeat(7) + houses(1) + plots(8) + "yields 50*strength;");
        due("the last", last.richest(1), 7);
    }

    // ---- lots to come

    private static void lotsForNoSuch() {
        sentence(26, "NoSuchElementException: no such HOUSE. IllegalArgumentException (behind that): not 0 to 99");
        for (int house : new int[] {-2, 3, 8, LEAST, MOST}) {
            noSuch("lotsFor(0, " + house + ")", x -> x.lotsFor(0, house));
            noSuch("lotsFor(-1, " + house + ")", x -> x.lotsFor(-1, house));
            noSuch("lotsFor(100, " + house + ")", x -> x.lotsFor(100, house));
        }
        for (int strength : new int[] {-1, 100, LEAST, MOST}) {
            notLegal("lotsFor(" + strength + ", NONE)", x -> x.lotsFor(strength, NONE));
            notLegal("lotsFor(" + strength + ", 0)", x -> x.lotsFor(strength, 0));
        }
        SonsLot empty = new SonsLot();
        none("lotsFor(0, 0) of no island", () -> empty.lotsFor(0, 0));
    }

    private static void lotsForSoMuchOrMore() {
        sentence(26, "in how many the STRENGTH of all SETTLERS together is so much (0 to 99) or more");
        SonsLot x = of("house 9 9 0;".repeat(8));
        due("0", x.lotsFor(0, NONE), 256);
        due("71", x.lotsFor(71, NONE), 256);
        due("72", x.lotsFor(72, NONE), 256);
        due("73", x.lotsFor(73, NONE), 0);
        due("99", x.lotsFor(99, NONE), 0);
        SonsLot y = of("house 0 1 0;".repeat(8));
        int[] due = {256, 255, 247, 219, 163, 93, 37, 9, 1, 0};
        for (int strength = 0; strength < due.length; strength++) {
            due("of eight: " + strength, y.lotsFor(strength, NONE), due[strength]);
        }
        y.lots(1);
        due("as lots are doesn't matter", y.lotsFor(8, NONE), 1);
    }

    private static void lotsForYounger() {
        sentence(26, "in how many of these the YOUNGER goes");
        SonsLot x = of("house 0 1 0;".repeat(8));
        int[] due = {128, 128, 127, 120, 99, 64, 29, 8, 1, 0};
        for (int strength = 0; strength < due.length; strength++) {
            due("the first: " + strength, x.lotsFor(strength, 0), due[strength]);
            due("the last: " + strength, x.lotsFor(strength, 7), due[strength]);
        }
        SonsLot one = of("house 5 3 0;");
        due("the elder alone", one.lotsFor(4, NONE), 1);
        due("not the younger", one.lotsFor(4, 0), 0);
        due("the younger, too", one.lotsFor(3, 0), 1);
    }

    private static void changeOneToTwenty() {
        sentence(27, "in so many YEARS (1 to 20). IllegalArgumentException: not 1 to 20");
        for (int years : new int[] {0, 21, -1, 50, LEAST, MOST}) {
            notLegal("change(" + years + ")", x -> x.change(years));
        }
        SonsLot empty = new SonsLot();
        illegal("change(0) of no island", () -> empty.change(0));
        due("change(1) of no island", empty.change(1), NONE);
        // the younger harvests in the year 19 alone
        SonsLot x = of("house 1 1 1;plot 0 0 0;eats 0;yields younger*(year=19);");
        due("in 19", x.change(19), NONE);
        due("in 20", x.change(20), 0);
        SonsLot first = of("house 1 1 1;plot 0 0 0;eats 0;yields younger*(year=0);");
        due("in one", first.change(1), 0);
    }

    private static void changeIfItIsMore() {
        sentence(27, "there is most in all STORES together, if it is more than without that; none");
        due("as much", of("house 1 1 1;plot 0 0 0;eats 0;yields 5;").change(9), NONE);
        due("less", of("house 1 1 1;plot 0 0 0;eats 0;yields 5-younger;").change(9), NONE);
        due("more", of("house 1 1 1;plot 0 0 0;eats 0;yields 5+younger;").change(9), 0);
        SonsLot x = of("house 1 1 1;plot 0 0 0;eats 0;yields 5+younger;");
        x.turn(0);
        due("it is turned now", x.change(9), NONE);
        SonsLot both = of("house 1 1 0;house 1 1 1;" + plots(2) + "eats 0;yields 5+younger*(tribe*2-1);");
        due("the other one", both.change(9), 1);
        both.turn(0);
        due("one back", both.change(9), 0);
        SonsLot gone = of("house 1 1 1;plot 0 0 0;yields 50*younger;");
        due("would not be gone", gone.change(2), 0);
        gone.years(1);
        due("is gone, whoever goes", gone.change(2), NONE);
        // 45 by the elder in the years 0 to 4, 45 a year by the younger from the year 6 on
        SonsLot later = of("house 1 1 1;plot 0 0 0;eats 0;yields younger*(5<year)*50+(1-younger)*(year<5)*10;");
        due("in 7: as much", later.change(7), NONE);
        due("in 8: more", later.change(8), 0);
    }

    private static void changeOfLikeOnes() {
        sentence(27, "(of like ones the least)");
        due("all alike", of("house 1 2 1;".repeat(8) + plots(8) + "eats 0;yields strength;").change(3), 0);
        due("the last two", of("house 1 1 1;house 1 2 1;house 1 3 1;house 1 3 1;" + plots(4) + "eats 0;yields strength;")
            .change(3), 2);
        due("the last", of("house 1 2 1;".repeat(7) + "house 1 3 1;" + plots(8) + "eats 0;yields strength;").change(3), 7);
    }

    private static void changeTakesSharesAnew() {
        sentence(27, "by TURNING whose lot now, alone: SHARES are TAKEN anew by it, EXCHANGES end");
        SonsLot x = of(TASTES + "yields 50*(water=tribe);eats 0;");
        due("as it is", x.change(1), NONE);
        x.exchange(1, 2);
        due("whoever is turned", x.change(1), 0);
        shares(x, 0, 2, 1);
        due("nothing is turned", x.count(9), 0);
        due("nobody is cursed", x.count(8), 0);
        due("acts", x.count(10), 1);
        // to take shares anew would do good, but each turn does more harm
        SonsLot harm = of("house 9 0 0;house 9 0 1;plot 0 0 0;plot 1 0 1;worth water=tribe;eats 0;"
            + "yields strength+3*(water=tribe);");
        harm.exchange(0, 1);
        due("a house there is, or none", harm.change(1), NONE);
    }

    // ---- whose share

    private static void enviedAnotherWhat() {
        sentence(28, "NoSuchElementException: another what");
        for (int what : new int[] {-1, 2, 3, LEAST, MOST}) {
            noSuch("envied(" + what + ")", x -> x.envied(what));
        }
    }

    private static void enviedIs(SonsLot x, int who, int byHowMany) {
        due("who", x.envied(0), who);
        due("by how many", x.envied(1), byHowMany);
    }

    private static void enviedNone() {
        sentence(28, "none, if nobody is (what 0; NONE: none), by how many (1; 0)");
        enviedIs(new SonsLot(), NONE, 0);
        enviedIs(of(houses(8)), NONE, 0);
        enviedIs(of(houses(1) + plots(9)), NONE, 0);
        enviedIs(of(EIGHT_TASTES), NONE, 0);
        enviedIs(of(houses(8) + plots(8) + "worth 0;"), NONE, 0);
    }

    private static void enviedOfLikeOnes() {
        sentence(28, "the SETTLER whom most others ENVY (of like ones the least)");
        enviedIs(of(houses(8) + plots(1)), 0, 7);
        enviedIs(of(houses(8) + plots(9)), 0, 7);
        enviedIs(of(houses(4) + plots(2) + "worth 0;"), 0, 2);
        SonsLot x = of(EIGHT_TASTES);
        x.exchange(6, 7);
        enviedIs(x, 6, 1);
        SonsLot last = of(houses(8) + plots(1));
        last.exchange(0, 7);
        enviedIs(last, 7, 7);
    }

    private static void withoutBothAreOne() {
        sentence(29, "IllegalArgumentException (behind NoSuchElementException): both are one");
        for (int house = 0; house < 3; house++) {
            int h = house;
            notLegal("without(" + h + ", " + h + ")", x -> x.without(h, h));
        }
        for (int house : new int[] {-1, 3, LEAST, MOST}) {
            noSuch("without(" + house + ", " + house + ")", x -> x.without(house, house));
        }
    }

    private static void withoutHim() {
        sentence(29, "were SHARES TAKEN anew, he not being there: the PLOT of the other one; NONE: none");
        SonsLot x = of(houses(3) + plots(2) + "worth 0;");
        int[][] due = {{0, 0, 1}, {0, 0, 1}, {0, 1, 0}};
        for (int h = 0; h < 3; h++) {
            for (int o = 0; o < 3; o++) {
                if (o != h) {
                    due("without " + h + " " + o, x.without(h, o), due[h][o]);
                }
            }
        }
        SonsLot few = of(houses(4) + plots(2) + "worth 0;");
        due("none is left all the same", few.without(0, 3), NONE);
        due("the next one has it", few.without(1, 2), 1);
        due("no plots", of(houses(2)).without(0, 1), NONE);
        few.exchange(0, 3);
        due("an exchange does not count", few.without(2, 0), 0);
        due("an exchange does not count", few.without(2, 3), NONE);
        few.order(3, 0);
        due("the order does", few.without(0, 3), 0);
        due("eight", of(houses(8) + plots(8) + "worth 0;").without(0, 7), 6);
    }

    private static void lastPlaceNoLess() {
        sentence(30, "the greatest place of the ORDER at which he would have a share of no less WORTH to him than now");
        SonsLot like = of(houses(8) + plots(8) + "worth 0;");
        SonsLot unlike = of(houses(8) + plots(8));
        for (int h = 0; h < 8; h++) {
            due("like ones", like.lastPlace(h), 7);
            due("each worth less", unlike.lastPlace(h), h);
        }
        SonsLot x = of(THREE);
        x.exchange(0, 2);
        due("with less than he took", x.lastPlace(0), 2);
        due("with the most", x.lastPlace(2), 0);
        due("as it was", x.lastPlace(1), 1);
        SonsLot one = of(houses(1) + plots(1));
        due("the only place", one.lastPlace(0), 0);
        SonsLot moved = of(houses(3) + plots(3));
        moved.order(0, 2);
        due("from the place he has", moved.lastPlace(0), 2);
        due("from the place he has", moved.lastPlace(1), 0);
    }

    private static void lastPlaceNoneIsLess() {
        sentence(30, "(none is less than any)");
        SonsLot x = of(houses(4) + plots(2) + "worth 128*4096*4096;");
        due("any is more than none", x.lastPlace(0), 1);
        due("any is more than none", x.lastPlace(1), 1);
        due("none is no less than none", x.lastPlace(2), 3);
        due("none is no less than none", x.lastPlace(3), 3);
        x.exchange(0, 3);
        due("he has none now", x.lastPlace(0), 3);
        due("he has one now", x.lastPlace(3), 1);
        due("no plots", of(houses(3)).lastPlace(0), 2);
    }

    private static void freeBits() {
        sentence(33, "PLOTS that are nobody's share, as bits");
        due("none", new SonsLot().free(), 0);
        due("all nine", of(plots(9)).free(), 511);
        due("all but eight", of(houses(8) + plots(9) + "worth 0;").free(), 256);
        due("all but the last", of(houses(1) + plots(9)).free(), 255);
        SonsLot x = of(houses(2) + plots(1));
        due("no plot is left", x.free(), 0);
        x.exchange(0, 1);
        due("an exchange frees none", x.free(), 0);
        x.years(1);
        due("who is gone has a share", x.free(), 0);
    }

    // ---- all questions

    private static void questionsChangeNothing() {
        sentence(17, "ACTS change things, questions don't");
        onlyAsks("ring", SonsLot::ring);
        onlyAsks("best", x -> x.best(1));
        onlyAsks("fairest", x -> x.fairest(1));
        onlyAsks("tribes", SonsLot::tribes);
        onlyAsks("middle", SonsLot::middle);
        onlyAsks("then", x -> x.then(0, 50));
        onlyAsks("starves", x -> x.starves(2));
        onlyAsks("tithes", x -> x.tithes(50));
        onlyAsks("holdsOut", SonsLot::holdsOut);
        onlyAsks("lotsFor", x -> x.lotsFor(9, 1));
        onlyAsks("change", x -> x.change(20));
        onlyAsks("envied", x -> x.envied(0));
        onlyAsks("without", x -> x.without(2, 0));
        onlyAsks("lastPlace", x -> x.lastPlace(2));
        onlyAsks("famine", x -> x.famine(50));
        onlyAsks("bushels", x -> x.bushels(0, 50));
        onlyAsks("free", SonsLot::free);
        onlyAsks("richest", x -> x.richest(50));
        onlyAsks("brothers", SonsLot::brothers);
        onlyAsks("look", x -> x.look(0, 1));
        onlyAsks("game", x -> x.game(0, 1, 2, 0));
        onlyAsks("founders", x -> x.founders(-5, 30, 0));
        onlyAsks("worth", x -> x.worth(2, 2));
        onlyAsks("harvest", x -> x.harvest(2, 2, 999));
        onlyAsks("fault", SonsLot::fault);
    }

    private static void callsUpTo512() {
        sentence(1, "An object is used for at most 512 calls after it has been made");
        SonsLot x = new SonsLot();
        String text = houses(8) + plots(9) + "yields " + "water+rain+year*0+".repeat(20) + "strength;";
        due("island", tell(x, text), 0);
        int calls = (text.length() + 19) / 20 + 1;
        long best = x.best(NONE);
        int tribes = x.tribes();
        int founders = x.founders(9, 30, 1);
        int change = x.change(20);
        calls += 4;
        for (; calls + 8 <= 512; calls += 8) {
            due("best", x.best(NONE), best);
            due("tribes", x.tribes(), tribes);
            due("founders", x.founders(9, 30, 1), founders);
            due("change", x.change(20), change);
            x.turn(3);
            x.image();
            due("restore", x.restore(), true);
            due("undo", x.undo(), 0);
        }
    }
}
