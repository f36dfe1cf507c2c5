/** Each sentence about what is seen, the game, founders, STATUS and the image that names a boundary case. */
public final class SonsLotEdgesOfSights extends Due {
    public static void main(String[] args) {
        seeAtMostEight();
        seeNotSoMuch();
        seeNoSuchYear();
        seeNoSuchHouse();
        brothersAsBits();
        brothersOnTheShareNow();
        brothersOfNothingSeen();
        brothersAllThatIsSeen();
        lookAnotherWhat();
        lookYears();
        lookOfLikeOnes();
        lookNever();
        forgetAll();

        gameAnotherWhat();
        gameBothAreOne();
        gameWhoGoesAlone();
        gameIfBothGo();
        gameAsStrong();
        gameNothingWithout();
        gameNoCouple();
        gameAllCouples();
        gameAtTheLeast();

        foundersAnotherWhat();
        foundersZeroToThirty();
        foundersFromWhereTheSeedIs();
        foundersFromYearZero();
        foundersOrderAndMarket();
        foundersMostAndNobody();

        statusCounts();
        imageInPlaceOfAnother();
        imageKeepsAll();
        imageKeepsYearsAndCurses();
        imageKeepsSights();
        imageKeepsAtMost40();
        imageIsNotTheObject();
        restoreNone();
        restoreAgain();
        end();
    }

    // ---- what is seen

    private static void seeAtMostEight() {
        sentence(35, "SEEN: how much is. NONE (STATUS 2): there are 8");
        SonsLot x = of(THREE);
        for (int i = 1; i <= 8; i++) {
            due("see", x.see(0, 99, 5), i);
            due("seen", x.count(11), i);
        }
        for (int i = 1; i <= 3; i++) {
            due("there are 8", x.see(1, 0, 77), NONE);
            due("seen", x.count(11), 8);
            due("STATUS", x.count(15), i);
        }
        due("the ninth is not seen", x.brothers() >> 9 & 1, 1);
        due("ACTS are not refused", x.count(14), 0);
        x.forget();
        due("anew", x.see(1, 0, 77), 1);
        due("now it is", x.brothers() >> 9 & 1, 0);
    }

    private static void seeNotSoMuch() {
        sentence(35, "NONE (STATUS 2): not 0 to 99");
        for (int harvest : new int[] {-1, 100, LEAST, MOST}) {
            changesNothing("see(0, 0, " + harvest + ")", x -> x.see(0, 0, harvest), NONE, 2);
        }
        SonsLot x = of("house 1 1 1;house 1 1 1;" + plots(2) + "yields 99*(walk<20);");
        due("0", x.see(1, 0, 0), 1);
        due("99", x.see(0, 0, 99), 2);
        due("both are so", x.brothers(), 0x303);
    }

    private static void seeNoSuchYear() {
        sentence(35, "NONE (STATUS 2): no such YEAR");
        for (int year : new int[] {-1, 100, 999, LEAST, MOST}) {
            changesNothing("see(0, " + year + ", 0)", x -> x.see(0, year, 0), NONE, 2);
            changesNothing("see(0, " + year + ", 100)", x -> x.see(0, year, 100), NONE, 2);
        }
        SonsLot x = of("house 1 1 1;plot 0 0 0;yields 5*(year=0)+7*(year=99);");
        due("year 0", x.see(0, 0, 5), 1);
        due("year 99", x.see(0, 99, 7), 2);
        due("both are so", x.brothers(), 0x101);
        due("year 98", x.see(0, 98, 7), 3);
        due("it is not so", x.brothers(), 0);
    }

    private static void seeNoSuchHouse() {
        sentence(35, "NoSuchElementException (ahead): no such HOUSE");
        for (int house : new int[] {-1, 3, 8, LEAST, MOST}) {
            noSuch("see(" + house + ", 100, 100)", x -> x.see(house, 100, 100));
            noSuch("see(" + house + ", -1, -1)", x -> x.see(house, -1, -1));
        }
        SonsLot x = of(THREE);
        for (int i = 0; i < 8; i++) {
            x.see(2, 0, 0);
        }
        none("see(3, 0, 0) when there are 8", () -> x.see(3, 0, 0));
        due("STATUS", x.count(15), 0);
    }

    private static void brothersAsBits() {
        sentence(36, "HOUSES .. were their SETTLER the other brother, as bits; and (8 bits higher each) as it is");
        SonsLot x = of("house 1 2 0;".repeat(8) + plots(8) + "yields strength;");
        due("nothing seen", x.brothers(), 0xffff);
        int others = 255;
        int same = 255;
        for (int h = 0; h < 8; h++) {
            x.see(h, 99, 1 + h % 3);
            others &= h % 3 == 1 ? 255 : ~(1 << h);
            same &= h % 3 == 0 ? 255 : ~(1 << h);
            due("brothers", x.brothers(), same << 8 | others);
        }
        for (int h = 0; h < 8; h++) {
            x.turn(h);
        }
        due("turned", x.brothers(), others << 8 | same);
    }

    private static void brothersOnTheShareNow() {
        sentence(36, "on the share that is theirs now");
        SonsLot x = of(houses(3) + "plot 0 0 1;plot 1 0 2;worth water;yields water;");
        shares(x, 1, 0, NONE);
        x.see(0, 0, 2);
        x.see(1, 0, 1);
        x.see(2, 0, 0);
        due("so", x.brothers(), 0x707);
        x.exchange(0, 1);
        due("exchanged", x.brothers(), 0x404);
        x.exchange(0, 2);
        due("now with none", x.brothers(), 0);
        x.undo();
        x.undo();
        due("undone", x.brothers(), 0x707);
        x.years(1);
        due("gone, but the share is theirs", x.count(6), 7);
        due("so", x.brothers(), 0x707);
    }

    private static void brothersOfNothingSeen() {
        sentence(36, "HOUSES of which all that is SEEN of them would be so: of whom nothing is, too");
        due("no houses", new SonsLot().brothers(), 0);
        due("one", of(houses(1)).brothers(), 0x101);
        due("eight", of(houses(8)).brothers(), 0xffff);
        SonsLot x = of(houses(3));
        x.see(1, 0, 1);
        due("of one something", x.brothers(), 0x505);
    }

    private static void brothersAllThatIsSeen() {
        sentence(36, "all that is SEEN of them");
        SonsLot x = of("house 3 5 0;plot 0 0 0;rain 0 1;yields rain*strength+1;");
        x.see(0, 0, 1);
        due("both brothers", x.brothers(), 0x101);
        x.see(0, 1, 4);
        due("as it is", x.brothers(), 0x100);
        x.see(0, 3, 6);
        due("none of both", x.brothers(), 0);
        x.forget();
        for (int i = 0; i < 7; i++) {
            x.see(0, 2 * i, 1);
        }
        due("both brothers", x.brothers(), 0x101);
        x.see(0, 99, 6);
        due("the eighth: the other brother", x.brothers(), 0x001);
    }

    private static void lookAnotherWhat() {
        sentence(37, "NoSuchElementException: also another what");
        for (int what : new int[] {-1, 2, 3, LEAST, MOST}) {
            noSuch("look(0, " + what + ")", x -> x.look(0, what));
        }
    }

    private static void looks(String text, int year, int byHowMuch) {
        SonsLot x = of(text);
        due("year, of " + text, x.look(0, 0), year);
        due("by how much, of " + text, x.look(0, 1), byHowMuch);
    }

    private static void lookYears() {
        sentence(37, "the YEAR (0 to 99)");
        looks("house 1 9 1;plot 0 0 5;yields strength*(year=0);", 0, 8);
        looks("house 1 9 1;plot 0 0 5;yields strength*(year=99);", 99, 8);
        looks("house 1 9 1;plot 0 0 5;yields strength*(year=100);", NONE, 0);
        looks("house 9 1 1;plot 0 0 5;yields strength*(year=98)+strength*2*(year=99);", 99, 16);
        SonsLot x = of("house 1 9 1;plot 0 0 5;eats 0;yields strength*(year=3);");
        x.years(9);
        due("years that went by, too", x.look(0, 0), 3);
    }

    private static void lookOfLikeOnes() {
        sentence(37, "most unlike on its share now (of like ones the first): by how much");
        looks("house 1 9 1;plot 0 0 5;yields strength;", 0, 8);
        looks("house 1 9 1;plot 0 0 5;yields strength*(6<year);", 7, 8);
        looks("house 1 9 1;plot 0 0 5;yields strength*(1-2*(year=7))+9;", 0, 8);
        looks("house 9 1 1;plot 0 0 5;yields 1000*(strength=9);", 0, 99);
        SonsLot x = of("house 2 9 1;plot 0 0 5;yields strength*(1+(year=7)+(year=8));");
        due("year", x.look(0, 0), 7);
        due("by how much", x.look(0, 1), 14);
        x.turn(0);
        due("whoever went", x.look(0, 0), 7);
        due("whoever went", x.look(0, 1), 14);
        looks("house 1 9 1;plot 0 0 5;yields 90+strength*2;", 0, 7);
    }

    private static void lookNever() {
        sentence(37, "none, if never (what 0; NONE), (1; 0: never)");
        looks("house 4 4 1;plot 0 0 5;yields strength*year;", NONE, 0);
        looks("house 1 9 1;plot 0 0 5;", NONE, 0);
        looks("house 1 9 1;", NONE, 0);
        looks("house 4 4 1;plot 0 0 5;yields younger;", 0, 1);
        looks("house 1 9 1;plot 0 0 5;yields 99+strength;", NONE, 0);
        looks("house 1 9 1;plot 0 0 5;yields 0-strength;", NONE, 0);
        SonsLot x = of("house 1 9 1;house 1 9 1;plot 0 0 5;yields strength;");
        due("without a share", x.look(1, 0), NONE);
        x.exchange(0, 1);
        due("with one now", x.look(1, 0), 0);
        due("without one now", x.look(0, 1), 0);
    }

    private static void forgetAll() {
        sentence(38, "All that is SEEN is forgotten");
        SonsLot x = of(THREE);
        x.forget();
        due("nothing to forget", x.count(11), 0);
        for (int i = 0; i < 9; i++) {
            x.see(i % 3, i, 98);
        }
        x.turn(0);
        due("brothers", x.brothers(), 0);
        x.forget();
        counts(x, 3, 3, 1010, 4, 0, 3, 0, 0, 1, 1, 1, 0, 0, 0, 0, 1);
        due("brothers", x.brothers(), 0x707);
        due("see", x.see(0, 0, 0), 1);
        due("undo brings nothing back", x.undo(), 0);
        due("seen", x.count(11), 1);
    }

    // ---- a game

    private static void gameAnotherWhat() {
        sentence(39, "NoSuchElementException: also another what");
        for (int what : new int[] {-1, 2, 3, LEAST, MOST}) {
            noSuch("game(0, 1, 2, " + what + ")", x -> x.game(0, 1, 2, what));
            noSuch("game(1, 1, 2, " + what + ")", x -> x.game(1, 1, 2, what));
        }
    }

    private static void gameBothAreOne() {
        sentence(39, "IllegalArgumentException (behind that): both are one");
        for (int house = 0; house < 3; house++) {
            int h = house;
            notLegal("game of one", x -> x.game(h, h, 0, 0));
            notLegal("game of one", x -> x.game(h, h, 2, 1));
            noSuch("no such plot ahead", x -> x.game(h, h, 3, 0));
        }
        noSuch("no such house ahead", x -> x.game(3, 3, 0, 0));
        noSuch("no such house ahead", x -> x.game(-1, -1, -1, -1));
    }

    private static void games(SonsLot x, int house, int other, int plot, int resting, int first) {
        due("how many", x.game(house, other, plot, 0), resting);
        due("the first", x.game(house, other, plot, 1), first);
    }

    /** Both have shares worth 10; the first one is stronger; plot 2 is worth so much, 10 at most. */
    private static SonsLot over(int worth) {
        SonsLot x = of("house 5 5 0;house 3 3 0;plot 0 0 1;plot 0 1 1;plot 0 2 0;worth 10*water+(1-water)*" + worth + ";");
        shares(x, 0, 1);
        return x;
    }

    private static void gameWhoGoesAlone() {
        sentence(39, "who goes alone has WORTH of it; who stays has WORTH of his share");
        // worth of the plot 9: both stay; 10: it is all the same to who goes alone
        games(over(9), 0, 1, 2, 1, 0);
        games(over(9), 1, 0, 2, 1, 0);
        games(over(10), 0, 1, 2, 3, 0);
        // the first one's own share: to stay and to go alone are the same
        SonsLot own = of("house 5 5 0;house 3 3 0;plot 0 0 2;plot 0 1 1;worth 10*water;");
        shares(own, 0, 1);
        // 0 stays: 20, goes alone: 20, both go: 15 to 0, nothing to 1; 1 stays: 10, goes alone: 20
        games(own, 0, 1, 0, 2, 1);
        games(own, 1, 0, 0, 2, 1);
    }

    private static void gameIfBothGo() {
        sentence(39, "if both go, the stronger one has it less 5 (the other one nothing)");
        // 0 has a share of worth 0, 1 has the plot itself: 1 goes or stays while 0 stays; then 0 would have it less 5
        for (int worth = 4; worth <= 6; worth++) {
            SonsLot x = of("house 5 5 0;house 3 3 0;plot 0 0 1;plot 0 1 1;plot 0 2 0;worth (water=0)*" + worth + ";");
            x.exchange(0, 1);
            shares(x, 0, 2);
            games(x, 0, 1, 2, worth > 5 ? 1 : 2, worth > 5 ? 10 : 1);
        }
        SonsLot free = of("house 5 5 0;house 3 3 0;house 9 9 0;plot 0 0 0;worth 6;");
        shares(free, 0, NONE, NONE);
        // 1 has nothing, 2 has nothing; alone 6; both: 2 has 1, 1 has 0
        games(free, 1, 2, 0, 2, 1);
        games(free, 2, 1, 0, 2, 10);
        SonsLot five = of("house 5 5 0;house 3 3 0;house 9 9 0;plot 0 0 0;worth 5;");
        // both: 2 has 0, 1 has 0; nobody has more by staying; 2 staying while 1 goes has 0, too
        games(five, 1, 2, 0, 3, 1);
        SonsLot four = of("house 5 5 0;house 3 3 0;house 9 9 0;plot 0 0 0;worth 4;");
        // both: 2 has -1: he stays
        games(four, 1, 2, 0, 2, 1);
    }

    private static void gameAsStrong() {
        sentence(39, "if both are as strong, both nothing");
        SonsLot x = of("house 5 5 0;house 3 3 0;house 3 3 0;plot 0 0 0;worth 100;");
        // alone 100, both nothing, who stays nothing
        games(x, 1, 2, 0, 3, 1);
        games(x, 2, 1, 0, 3, 1);
        SonsLot below = of("house 5 5 0;house 3 3 0;house 3 3 0;plot 0 0 0;worth 0-1;");
        // both go: nothing, as much as who stays has
        games(below, 1, 2, 0, 2, 0);
        SonsLot turned = of("house 5 5 0;house 3 4 0;house 3 4 0;plot 0 0 0;worth 100;");
        turned.turn(1);
        // the younger one is stronger: he goes, whatever the other one does
        games(turned, 1, 2, 0, 2, 10);
    }

    private static void gameNothingWithout() {
        sentence(39, "who stays has WORTH of his share (nothing without)");
        SonsLot x = of("house 9 9 0;house 5 5 0;house 3 3 0;plot 0 0 0;worth 0-1;");
        shares(x, 0, NONE, NONE);
        games(x, 1, 2, 0, 1, 0);
        SonsLot zero = of("house 9 9 0;house 5 5 0;house 3 3 0;plot 0 0 0;worth 0;");
        // both go: the stronger one has -5
        games(zero, 1, 2, 0, 3, 0);
    }

    private static void gameNoCouple() {
        sentence(39, "how many couples rest (what 0), the first (1; NONE: none)");
        // To the stronger one his share is worth 96, plot 2 100: alone 100, with the other one 95.
        // To the other one his share is worth -1, plot 2 -2: alone -2, with the stronger one nothing.
        SonsLot y = of("house 9 9 2;house 5 5 0;house 3 3 1;plot 0 0 1;plot 0 1 2;plot 0 2 3;worth (tribe=2)*(water=3)"
            + "+(tribe=0)*((water=1)*96+(water=3)*100)+(tribe=1)*(0-(water=2)-(water=3)*2-(water=1)*9);");
        shares(y, 2, 0, 1);
        // one stays: the stronger one goes; he goes: the other one goes; both go: he stays; he stays: the other one stays
        games(y, 1, 2, 2, 0, NONE);
        games(y, 2, 1, 2, 0, NONE);
    }

    private static void gameAllCouples() {
        sentence(39, "A couple RESTS, if neither has more by the other choice");
        // as strong, all nothing: all four rest, the first is that in which both stay
        games(of("house 9 9 0;house 3 3 0;house 3 3 0;plot 0 0 0;worth 0;"), 1, 2, 0, 4, 0);
        // as strong, without shares, over a plot of worth -1: both stay, or both go
        games(of("house 9 9 0;house 3 3 0;house 3 3 0;plot 0 0 0;worth 0-1;"), 1, 2, 0, 2, 0);
    }

    private static void gameAtTheLeast() {
        sentence(39, "WORTH of it less 5, at the ends of what an int can be");
        games(of("house 9 9 0;house 5 5 0;house 3 3 0;plot 0 0 0;worth 128*4096*4096-1;"), 1, 2, 0, 2, 10);
        games(of("house 9 9 0;house 5 5 0;house 3 3 0;plot 0 0 0;worth 128*4096*4096+5;"), 1, 2, 0, 1, 0);
    }

    // ---- founders

    private static void foundersAnotherWhat() {
        sentence(40, "NoSuchElementException: another what. IllegalArgumentException (behind that): n");
        for (int what : new int[] {-1, 3, 4, LEAST, MOST}) {
            noSuch("founders(0, 0, " + what + ")", x -> x.founders(0, 0, what));
            noSuch("founders(0, -1, " + what + ")", x -> x.founders(0, -1, what));
            noSuch("founders(0, 31, " + what + ")", x -> x.founders(0, 31, what));
        }
        for (int n : new int[] {-1, 31, 32, LEAST, MOST}) {
            for (int what = 0; what < 3; what++) {
                int w = what;
                notLegal("founders(0, " + n + ", " + w + ")", x -> x.founders(0, n, w));
            }
        }
        SonsLot empty = new SonsLot();
        none("founders of no island", () -> empty.founders(0, 31, 3));
        illegal("founders of no island", () -> empty.founders(0, 31, 2));
    }

    private static void foundersZeroToThirty() {
        sentence(40, "n times (0 to 30)");
        SonsLot x = of("house 1 1 1;plot 0 0 0;yields 0;eats 1;");
        due("no times", x.founders(5, 0, 0), 0);
        due("no times", x.founders(5, 0, 1), 0);
        due("no times", x.founders(5, 0, 2), 0);
        due("once", x.founders(5, 1, 0), 1);
        due("30 times", x.founders(5, 30, 0), 30);
        due("30 times", x.founders(5, 30, 2), 0);
        due("eight, 30 times", of(houses(8)).founders(5, 30, 0), 240);
    }

    /** How many of these rows of lots there are in which a younger one goes. */
    private static int youngers(int seed, int houses, int times) {
        long where = seed & 0xffffffffL;
        int many = 0;
        for (int i = 0; i < houses * times; i++) {
            where = (where * 1103515245L + 12345L) % 4294967296L;
            many += (int) (where / 65536L % 2L);
        }
        return many;
    }

    private static void foundersFromWhereTheSeedIs() {
        sentence(40, "all LOTS are DRAWN from where the seed is then");
        SonsLot x = of(houses(8) + plots(8) + "yields 50*(1-younger);");
        for (int seed : new int[] {0, 1, -1, MOST, LEAST, 123456789}) {
            for (int n : new int[] {1, 2, 7, 30}) {
                due("founders(" + seed + ", " + n + ", 0)", x.founders(seed, n, 0), youngers(seed, 8, n));
            }
        }
        due("no lots are drawn here", x.count(9), 0);
        due("no act", x.count(10), 0);
    }

    private static void foundersFromYearZero() {
        sentence(40, "five YEARS go by from YEAR 0 with empty STORES (nobody GONE at first)");
        SonsLot x = of("house 1 1 1;plot 0 0 0;eats 0;yields 1+(year=4)*2+(year=5)*50;");
        due("the years 0 to 4", x.founders(1, 1, 1), 7);
        x.years(30);
        due("whatever year it is", x.founders(1, 3, 1), 7);
        stores(x, 82 - 5);
        SonsLot gone = of("house 1 1 1;plot 0 0 0;yields 4*(year<4);");
        due("the fifth year, too", gone.founders(1, 1, 0), 1);
        SonsLot later = of("house 1 1 1;plot 0 0 0;yields 4*(year<5);");
        due("not the sixth", later.founders(1, 1, 0), 0);
        later.years(9);
        due("gone now", later.count(6), 1);
        due("nobody at first", later.founders(1, 1, 0), 0);
        due("nobody at first, each time", later.founders(1, 30, 2), 30);
        due("gone still", later.count(6), 1);
    }

    private static void foundersOrderAndMarket() {
        sentence(40, "SHARES are TAKEN");
        SonsLot x = of("house 1 1 0;house 2 2 1;plot 0 0 0;yields 5*strength*(walk<20);eats 0;");
        due("too far", x.founders(1, 1, 1), 0);
        x.market(0, 1);
        due("by the market now, the first one", x.founders(1, 1, 1), 25);
        x.order(1, 0);
        due("by the order now, the second one", x.founders(1, 1, 1), 45);
        x.exchange(0, 1);
        due("not by exchanges", x.founders(1, 1, 1), 45);
        shares(x, 0, NONE);
    }

    private static void foundersMostAndNobody() {
        sentence(40, "the most STORE of one; how often nobody was GONE");
        SonsLot x = of("house 1 1 0;house 2 2 1;" + plots(2) + "yields 30*strength;eats 0;");
        due("of one, not of all", x.founders(1, 2, 1), 270);
        due("often", x.founders(1, 2, 2), 2);
        // the seed 1 draws 0 0 1, 1 1 1, 1 0 1, ..: 16838 5758 10113 17515 31051 5627 23010 7419
        SonsLot some = of(houses(3) + plots(3) + "yields 10*younger;");
        due("gone", some.founders(1, 1, 0), 2);
        due("never", some.founders(1, 1, 2), 0);
        due("gone", some.founders(1, 2, 0), 2);
        due("once", some.founders(1, 2, 2), 1);
        due("the most of all times", some.founders(1, 2, 1), 25);
        due("at the end, not in between",
            of("house 1 1 1;plot 0 0 0;yields 60*(year=0);eats 20;").founders(1, 1, 1), 0);
    }

    // ---- STATUS, the image

    private static void statusCounts() {
        sentence(5, "STATUS: how many calls were refused: 0 TEXTS with a FAULT, 1 ACTS, 2 what is SEEN");
        SonsLot x = of(THREE);
        for (int i = 1; i <= 20; i++) {
            tell(x, "x");
            x.order(0, 3);
            x.market(0, -1);
            x.see(0, 0, -1);
            counts(x, 3, 3, 1010, 4, 0, 3, 0, 0, 0, 0, 0, 0, 0, i, 2 * i, i);
        }
        x.undo();
        x.restore();
        x.feed(0, 0, 0, 0, 0);
        none("turn", () -> x.turn(3));
        illegal("island", () -> x.island(21));
        due("these are none of them", x.count(13), 20);
        due("these are none of them", x.count(14), 40);
        due("these are none of them", x.count(15), 20);
    }

    private static void imageInPlaceOfAnother() {
        sentence(41, "AN IMAGE is kept, in place of another one");
        SonsLot x = of(THREE);
        x.image();
        x.turn(0);
        x.image();
        x.turn(1);
        x.image();
        x.turn(2);
        due("restore", x.restore(), true);
        due("the latest", x.count(9), 3);
        due("undo", x.undo(), 1);
        due("undo", x.undo(), 0);
        due("restore", x.restore(), true);
        due("the latest again", x.count(9), 3);
    }

    private static void imageKeepsAll() {
        sentence(41, "AN IMAGE keeps all that ACTS change, ACTS that are kept, what is SEEN, STATUS");
        SonsLot x = of(THREE + "yields 9*(strength<5);");
        x.turn(1);
        x.order(2, 0);
        x.exchange(0, 1);
        x.market(0, 0);
        x.exchange(0, 2);
        x.years(3);
        x.see(2, 7, 9);
        x.see(2, 7, 100);
        x.years(31);
        tell(x, "x");
        x.image();
        x.turn(2);
        x.lots(1);
        x.order(0, 2);
        x.market(9, 9);
        x.years(5);
        x.see(0, 0, 98);
        x.see(0, 0, 100);
        x.years(31);
        tell(x, "x ");
        tape(x, "house 1 1 1;");
        due("restore", x.restore(), true);
        counts(x, 3, 3, 0, 4, 3, 3, 3, 0, 1, 2, 6, 1, 20, 1, 1, 1);
        shares(x, 2, 0, 1);
        stores(x, 0, 0, 15);
        places(x, 1, 2, 0);
        due("brothers", x.brothers(), 0x707);
        sentence(42, "It is as the IMAGE again: ACTS can be UNDONE as then");
        due("undo years", x.undo(), 5);
        stores(x, 0, 0, 0);
        due("undo exchange", x.undo(), 4);
        shares(x, 1, 0, 2);
        due("undo market", x.undo(), 3);
        shares(x, 2, 0, 1);
        due("undo exchange", x.undo(), 2);
        shares(x, 0, 2, 1);
        due("undo order", x.undo(), 1);
        places(x, 0, 1, 2);
        due("undo turn", x.undo(), 0);
        due("undo", x.undo(), NONE);
        sentence(42, "It is as the IMAGE again: not the tape, not the island, not the place of a FAULT");
        due("fault", x.fault(), 0);
        due("the tape is as it was", x.island(12), 0);
        due("houses", x.count(0), 1);
    }

    private static void imageKeepsYearsAndCurses() {
        sentence(41, "AN IMAGE keeps all that ACTS change: TITHE, CURSES, who is GONE, STORES");
        SonsLot x = of(houses(3) + plots(2) + "yields 50;");
        x.years(2);
        x.turn(1);
        x.image();
        x.turn(0);
        x.turn(1);
        x.years(5);
        counts(x, 3, 2, 1010, 4, 7, 3, 4, 70, 3, 1, 5);
        due("restore", x.restore(), true);
        counts(x, 3, 2, 1010, 4, 2, 3, 4, 20, 1, 2, 2);
        stores(x, 82, 82, 0);
        x.undo();
        x.undo();
        counts(x, 3, 2, 1010, 4, 0, 3, 0, 0, 0, 0, 0);
        due("restore", x.restore(), true);
        counts(x, 3, 2, 1010, 4, 2, 3, 4, 20, 1, 2, 2);
        stores(x, 82, 82, 0);
    }

    private static void imageKeepsSights() {
        sentence(41, "AN IMAGE keeps what is SEEN");
        SonsLot x = of("house 3 5 0;house 2 4 0;" + plots(2) + "yields strength*year;");
        x.see(0, 2, 6);
        x.see(1, 3, 12);
        due("brothers", x.brothers(), 0x102);
        x.image();
        x.forget();
        x.see(1, 1, 2);
        x.see(0, 1, 5);
        x.see(0, 1, 4);
        due("brothers", x.brothers(), 0x200);
        due("restore", x.restore(), true);
        due("seen", x.count(11), 2);
        due("brothers", x.brothers(), 0x102);
        x.forget();
        x.image();
        x.see(0, 0, 9);
        due("restore", x.restore(), true);
        due("seen", x.count(11), 0);
        due("brothers", x.brothers(), 0x303);
    }

    private static void imageKeepsAtMost40() {
        sentence(41, "AN IMAGE keeps ACTS that are kept (at most 40)");
        SonsLot x = of(THREE);
        for (int i = 0; i < 55; i++) {
            x.years(1);
        }
        x.image();
        for (int i = 0; i < 17; i++) {
            x.years(2);
        }
        for (int i = 0; i < 5; i++) {
            x.undo();
        }
        due("restore", x.restore(), true);
        due("acts", x.count(10), 40);
        for (int i = 39; i >= 0; i--) {
            due("undo", x.undo(), i);
            due("year", x.count(4), 15 + i);
        }
        due("undo", x.undo(), NONE);
    }

    private static void imageIsNotTheObject() {
        sentence(41, "AN IMAGE is kept: what comes then does not change it");
        SonsLot x = of(THREE);
        x.see(0, 0, 9);
        x.image();
        x.forget();
        for (int i = 0; i < 8; i++) {
            x.see(2, 0, 98);
        }
        x.exchange(0, 1);
        x.order(2, 0);
        x.years(30);
        x.restore();
        counts(x, 3, 3, 1010, 4, 0, 3, 0, 0, 0, 0, 0, 1, 0, 0, 0, 0);
        shares(x, 1, 0, 2);
        stores(x, 0, 0, 0);
        places(x, 0, 1, 2);
        due("brothers", x.brothers(), 0x707);
        due("see", x.see(2, 0, 98), 2);
        due("brothers", x.brothers(), 0x303);
    }

    private static void restoreNone() {
        sentence(42, "False: there is none");
        SonsLot x = new SonsLot();
        due("of a new object", x.restore(), false);
        x.market(1, 1);
        due("nothing changes", x.restore(), false);
        counts(x, 0, 0, 101, 4, 0, 3, 0, 0, 0, 0, 1, 0, 0, 0, 0, 0);
        x.image();
        due("of a new object's image", x.restore(), true);
        due("island", x.island(0), 0);
        due("the image is gone", x.restore(), false);
        x.image();
        due("island with a fault", tell(x, "x"), 1);
        due("the image stays", x.restore(), true);
        due("STATUS as then", x.count(13), 0);
        illegal("island", () -> x.island(1));
        due("the image stays", x.restore(), true);
    }

    private static void restoreAgain() {
        sentence(42, "It is as the IMAGE again: true, as often as one asks");
        SonsLot x = of(THREE);
        x.years(2);
        x.image();
        for (int i = 0; i < 4; i++) {
            x.years(9);
            x.turn(i % 3);
            x.undo();
            x.undo();
            x.undo();
            due("undone beyond the image", x.count(4), 0);
            due("restore", x.restore(), true);
            counts(x, 3, 3, 1010, 4, 2, 3, 0, 2, 0, 0, 1, 0, 0, 0, 0, 0);
            stores(x, 10, 2, 14);
        }
    }
}
