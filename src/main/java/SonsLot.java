import java.util.NoSuchElementException;

/**
 * One son of each two: an island's houses send one brother each over sea, by lot, to plots of a new land.
 * The document says what each call answers; its terms stand in the names and comments here.
 *
 * <p>Every row that a call needs is made by the constructor and used again, so that calls make nothing.
 */
public final class SonsLot {
    public static final int NONE = -1;

    private static final int MOST_HOUSES = 8;
    private static final int MOST_PLOTS = 9;
    private static final int MOST_RAIN = 10;
    private static final int MOST_TEXT = 700;
    private static final int MOST_ACTS = 40;
    private static final int MOST_SEEN = 8;
    private static final int MOST_STORE = 999;
    private static final int MOST_HARVEST = 99;
    private static final int LAST_YEAR = 999;
    private static final int LAST_YEAR_SEEN = 99;
    private static final int FARTHEST = 20;
    private static final int FORECAST = 50;
    private static final int BYTES_FED = 20;

    private static final int TEXTS = 0;
    private static final int ACTS = 1;
    private static final int SIGHTS = 2;

    private final Tape tape;
    private final Reader reader;
    private final Land land;
    private final Chronicle live;
    private final Chronicle kept;
    private final State trial;
    private final Pairing pairing;
    private final int[] envy;
    private Island draft;
    private boolean hasImage;

    public SonsLot() {
        tape = new Tape();
        draft = new Island();
        reader = new Reader(tape, draft);
        land = new Land();
        live = new Chronicle();
        kept = new Chronicle();
        trial = new State();
        pairing = new Pairing();
        envy = new int[MOST_HOUSES];
        hasImage = false;
    }

    // ---- the island's text

    public int feed(int a, int b, int c, int d, int e) {
        if (tape.fed + BYTES_FED > MOST_TEXT) {
            return NONE;
        }
        tape.append(a);
        tape.append(b);
        tape.append(c);
        tape.append(d);
        tape.append(e);
        return tape.fed;
    }

    public int island(int n) throws IllegalArgumentException {
        if (n < 0 || n > tape.fed) {
            throw new IllegalArgumentException();
        }
        int fault = reader.read(draft, n);
        tape.fed = 0;
        if (fault != 0) {
            live.refused[TEXTS]++;
            return fault;
        }
        Island former = land.island;
        land.island = draft;
        draft = former;
        live.begin(land.island);
        land.takeShares(live.state, NONE);
        hasImage = false;
        return 0;
    }

    public int fault() {
        return reader.place;
    }

    // ---- how things are

    public int count(int what) throws NoSuchElementException {
        State state = live.state;
        switch (what) {
            case 0: return land.island.houses;
            case 1: return land.island.plots;
            case 2: return marketPlace();
            case 3: return land.island.eats;
            case 4: return state.year;
            case 5: return land.island.rainIn(state.year);
            case 6: return state.gone;
            case 7: return state.tithe;
            case 8: return state.curses;
            case 9: return state.lots;
            case 10: return live.history.size;
            case 11: return live.sights.size;
            case 12: return tape.fed;
            case 13: return live.refused[TEXTS];
            case 14: return live.refused[ACTS];
            case 15: return live.refused[SIGHTS];
            default: throw new NoSuchElementException();
        }
    }

    public int house(int house, int what) throws NoSuchElementException {
        needHouse(house);
        State state = live.state;
        switch (what) {
            case 0: return land.island.elder[house];
            case 1: return land.island.younger[house];
            case 2: return land.island.tribe[house];
            case 3: return state.lotOf(house);
            case 4: return state.share[house];
            case 5: return state.store[house];
            case 6: return state.place[house];
            case 7: return land.enviedBy(state, house);
            default: throw new NoSuchElementException();
        }
    }

    public int plot(int plot, int what) throws NoSuchElementException {
        needPlot(plot);
        switch (what) {
            case 0: return land.island.plotX[plot];
            case 1: return land.island.plotY[plot];
            case 2: return land.island.water[plot];
            case 3: return land.walkToMarket(live.state, plot);
            case 4: return land.ownerOf(live.state, plot);
            default: throw new NoSuchElementException();
        }
    }

    public int worth(int house, int plot) throws NoSuchElementException {
        needHouse(house);
        needPlot(plot);
        return land.worthOf(live.state, house, plot);
    }

    public int harvest(int house, int plot, int year) throws NoSuchElementException, IllegalArgumentException {
        needHouse(house);
        needPlot(plot);
        needWithin(year, 0, LAST_YEAR);
        return land.cropOf(live.state, house, live.state.lotOf(house), plot, year);
    }

    public int free() {
        return land.plotsLeft(live.state);
    }

    private int marketPlace() {
        return 100 * live.state.marketY + live.state.marketX;
    }

    // ---- acts

    public int lots(int seed) {
        keepAct();
        land.drawLots(live.state, seed);
        land.takeShares(live.state, NONE);
        return live.state.lots;
    }

    public int turn(int house) throws NoSuchElementException {
        needHouse(house);
        keepAct();
        live.state.turnLot(house);
        live.state.curses++;
        land.takeShares(live.state, NONE);
        return live.state.lotOf(house);
    }

    public int order(int house, int place) throws NoSuchElementException {
        needHouse(house);
        if (place < 0 || place >= land.island.houses) {
            return refuse(ACTS);
        }
        keepAct();
        int former = live.state.place[house];
        live.state.moveInOrder(house, place);
        land.takeShares(live.state, NONE);
        return former;
    }

    public boolean exchange(int house, int other) throws NoSuchElementException {
        needHouse(house);
        needHouse(other);
        if (house == other) {
            refuse(ACTS);
            return false;
        }
        keepAct();
        int share = live.state.share[house];
        live.state.share[house] = live.state.share[other];
        live.state.share[other] = share;
        return true;
    }

    public int market(int x, int y) {
        if (x < 0 || x > FARTHEST || y < 0 || y > FARTHEST) {
            return refuse(ACTS);
        }
        keepAct();
        int former = marketPlace();
        live.state.marketX = x;
        live.state.marketY = y;
        land.takeShares(live.state, NONE);
        return former;
    }

    public int years(int many) {
        if (many < 1 || many > 30 || live.state.year + many > LAST_YEAR) {
            return refuse(ACTS);
        }
        keepAct();
        land.passYears(live.state, many);
        return live.state.year;
    }

    public int undo() {
        if (live.history.size == 0) {
            return NONE;
        }
        live.history.takeLast(live.state);
        return live.history.size;
    }

    private void keepAct() {
        live.history.keep(live.state);
    }

    private int refuse(int status) {
        live.refused[status]++;
        return NONE;
    }

    // ---- envy and better shares

    public int ring() {
        findEnvy();
        int houses = land.island.houses;
        for (int many = 2; many <= houses; many++) {
            for (int first = 0; first < houses; first++) {
                if (comesBack(first, many)) {
                    return many;
                }
            }
        }
        return NONE;
    }

    public int envied(int what) throws NoSuchElementException {
        needWhat(what, 2);
        findEnvy();
        int envied = NONE;
        int most = 0;
        for (int house = 0; house < land.island.houses; house++) {
            int many = howManyEnvy(house);
            if (many > most) {
                most = many;
                envied = house;
            }
        }
        return what == 0 ? envied : most;
    }

    private void findEnvy() {
        for (int house = 0; house < land.island.houses; house++) {
            envy[house] = land.enviedBy(live.state, house);
        }
    }

    /** The shortest way back of all is no longer than the shortest ring, as nobody envies himself. */
    private boolean comesBack(int first, int steps) {
        int reached = 1 << first;
        for (int step = 0; step < steps; step++) {
            int next = 0;
            for (int house = 0; house < land.island.houses; house++) {
                if ((reached >> house & 1) != 0) {
                    next |= envy[house];
                }
            }
            reached = next;
        }
        return (reached >> first & 1) != 0;
    }

    private int howManyEnvy(int envied) {
        int many = 0;
        for (int house = 0; house < land.island.houses; house++) {
            many += envy[house] >> envied & 1;
        }
        return many;
    }

    public long best(int house) throws NoSuchElementException {
        if (house != NONE) {
            needHouse(house);
        }
        pairing.weigh(land, live.state);
        long most = pairing.mostTogether();
        return house == NONE ? most : pairing.plotFor(house);
    }

    public int fairest(int what) throws NoSuchElementException {
        needWhat(what, 2);
        if (land.island.houses == 0 || land.island.plots < land.island.houses) {
            return 0;
        }
        if (what == 0) {
            return 1;
        }
        pairing.weigh(land, live.state);
        return pairing.mostForTheLeast();
    }

    public int tribes() {
        return leastSpread(0, 0, 0, 0);
    }

    /** The settlers ahead of this one are in three already, with these strengths. */
    private int leastSpread(int house, int one, int two, int three) {
        if (house >= land.island.houses || house >= MOST_HOUSES) {
            return Math.max(one, Math.max(two, three)) - Math.min(one, Math.min(two, three));
        }
        int strength = land.strengthOf(live.state, house);
        int inOne = leastSpread(house + 1, one + strength, two, three);
        int inTwo = leastSpread(house + 1, one, two + strength, three);
        int inThree = leastSpread(house + 1, one, two, three + strength);
        return Math.min(inOne, Math.min(inTwo, inThree));
    }

    public int middle() {
        int place = 0;
        int least = Integer.MAX_VALUE;
        for (int y = 0; y <= FARTHEST; y++) {
            for (int x = 0; x <= FARTHEST; x++) {
                int walks = land.walksToShares(live.state, x, y);
                if (walks < least) {
                    least = walks;
                    place = 100 * y + x;
                }
            }
        }
        return place;
    }

    public int without(int house, int other) throws NoSuchElementException, IllegalArgumentException {
        needHouse(house);
        needHouse(other);
        if (house == other) {
            throw new IllegalArgumentException();
        }
        trial.copyFrom(live.state);
        land.takeShares(trial, house);
        return trial.share[other];
    }

    public int lastPlace(int house) throws NoSuchElementException {
        needHouse(house);
        long now = land.worthOfShare(live.state, house, Long.MIN_VALUE);
        for (int place = land.island.houses - 1; place >= 0; place--) {
            trial.copyFrom(live.state);
            trial.moveInOrder(house, place);
            land.takeShares(trial, NONE);
            if (land.worthOfShare(trial, house, Long.MIN_VALUE) >= now) {
                return place;
            }
        }
        return NONE;
    }

    // ---- if only years go by

    public int then(int house, int years) throws NoSuchElementException, IllegalArgumentException {
        needHouse(house);
        needWithin(years, 0, FORECAST);
        foresee(years);
        return trial.store[house];
    }

    public int starves(int house) throws NoSuchElementException {
        needHouse(house);
        trial.copyFrom(live.state);
        for (int years = 0; years <= FORECAST; years++) {
            if (trial.isGone(house)) {
                return years;
            }
            land.passYears(trial, 1);
        }
        return NONE;
    }

    public int tithes(int years) throws IllegalArgumentException {
        needWithin(years, 0, FORECAST);
        foresee(years);
        return trial.tithe - live.state.tithe;
    }

    public int holdsOut() {
        trial.copyFrom(live.state);
        for (int years = 1; years <= FORECAST; years++) {
            land.passYears(trial, 1);
            if (trial.gone != live.state.gone) {
                return years;
            }
        }
        return NONE;
    }

    public int famine(int years) throws IllegalArgumentException {
        needWithin(years, 0, FORECAST);
        foresee(years);
        return Integer.bitCount(trial.gone);
    }

    public int bushels(int house, int years) throws NoSuchElementException, IllegalArgumentException {
        needHouse(house);
        needWithin(years, 0, FORECAST);
        trial.copyFrom(live.state);
        int bushels = 0;
        for (int passed = 0; passed < years && !trial.isGone(house); passed++) {
            bushels += land.cropOnShare(trial, house);
            land.passYears(trial, 1);
        }
        return bushels;
    }

    public int richest(int years) throws IllegalArgumentException {
        needWithin(years, 0, FORECAST);
        foresee(years);
        int richest = NONE;
        int most = -1;
        for (int house = 0; house < land.island.houses; house++) {
            if (trial.store[house] > most) {
                most = trial.store[house];
                richest = house;
            }
        }
        return richest;
    }

    public int change(int years) throws IllegalArgumentException {
        needWithin(years, 1, 20);
        foresee(years);
        int most = trial.allStores();
        int chosen = NONE;
        for (int house = 0; house < land.island.houses; house++) {
            trial.copyFrom(live.state);
            trial.turnLot(house);
            land.takeShares(trial, NONE);
            land.passYears(trial, years);
            if (trial.allStores() > most) {
                most = trial.allStores();
                chosen = house;
            }
        }
        return chosen;
    }

    private void foresee(int years) {
        trial.copyFrom(live.state);
        land.passYears(trial, years);
    }

    // ---- lots that would do, founders

    public int lotsFor(int strength, int house) throws NoSuchElementException, IllegalArgumentException {
        if (house != NONE) {
            needHouse(house);
        }
        needWithin(strength, 0, 99);
        int many = 0;
        for (int lots = 0; lots < 1 << land.island.houses; lots++) {
            trial.lots = lots;
            boolean counts = house == NONE || trial.lotOf(house) == 1;
            if (counts && land.allStrength(trial) >= strength) {
                many++;
            }
        }
        return many;
    }

    public int founders(int seed, int n, int what) throws NoSuchElementException, IllegalArgumentException {
        needWhat(what, 3);
        needWithin(n, 0, 30);
        trial.copyFrom(live.state);
        int gone = 0;
        int most = 0;
        int unharmed = 0;
        int where = seed;
        for (int time = 0; time < n; time++) {
            trial.beginYears();
            where = land.drawLots(trial, where);
            land.takeShares(trial, NONE);
            land.passYears(trial, 5);
            gone += Integer.bitCount(trial.gone);
            most = Math.max(most, trial.mostStore());
            unharmed += trial.gone == 0 ? 1 : 0;
        }
        return what == 0 ? gone : what == 1 ? most : unharmed;
    }

    // ---- what is seen

    public int see(int house, int year, int harvest) throws NoSuchElementException {
        needHouse(house);
        boolean told = year >= 0 && year <= LAST_YEAR_SEEN && harvest >= 0 && harvest <= MOST_HARVEST;
        if (!told || live.sights.size >= MOST_SEEN) {
            return refuse(SIGHTS);
        }
        live.sights.add(house, year, harvest);
        return live.sights.size;
    }

    public int brothers() {
        int others = 0;
        int same = 0;
        for (int house = 0; house < land.island.houses; house++) {
            int lot = live.state.lotOf(house);
            if (agrees(house, 1 - lot)) {
                others |= 1 << house;
            }
            if (agrees(house, lot)) {
                same |= 1 << house;
            }
        }
        return same << 8 | others;
    }

    private boolean agrees(int house, int lot) {
        Sights sights = live.sights;
        for (int i = 0; i < sights.size && i < MOST_SEEN; i++) {
            if (sights.house[i] == house && cropOfBrother(house, lot, sights.year[i]) != sights.harvest[i]) {
                return false;
            }
        }
        return true;
    }

    public int look(int house, int what) throws NoSuchElementException {
        needHouse(house);
        needWhat(what, 2);
        int first = NONE;
        int most = 0;
        for (int year = 0; year <= LAST_YEAR_SEEN; year++) {
            int unlike = Math.abs(cropOfBrother(house, 0, year) - cropOfBrother(house, 1, year));
            if (unlike > most) {
                most = unlike;
                first = year;
            }
        }
        return what == 0 ? first : most;
    }

    private int cropOfBrother(int house, int lot, int year) {
        return land.cropOf(live.state, house, lot, live.state.share[house], year);
    }

    public void forget() {
        live.sights.size = 0;
    }

    // ---- a game over a plot

    public int game(int house, int other, int plot, int what)
            throws NoSuchElementException, IllegalArgumentException {
        needHouse(house);
        needHouse(other);
        needPlot(plot);
        needWhat(what, 2);
        if (house == other) {
            throw new IllegalArgumentException();
        }
        int resting = 0;
        int first = NONE;
        for (int couple = 0; couple < 4; couple++) {
            boolean goes = (couple & 2) != 0;
            boolean otherGoes = (couple & 1) != 0;
            if (isContent(house, other, plot, goes, otherGoes) && isContent(other, house, plot, otherGoes, goes)) {
                resting++;
                first = first == NONE ? 10 * (couple >> 1) + (couple & 1) : first;
            }
        }
        return what == 0 ? resting : first;
    }

    private boolean isContent(int house, int other, int plot, boolean goes, boolean otherGoes) {
        return gain(house, other, plot, !goes, otherGoes) <= gain(house, other, plot, goes, otherGoes);
    }

    /** A long, as worth less 5 may be below every int. */
    private long gain(int house, int other, int plot, boolean goes, boolean otherGoes) {
        if (!goes) {
            return land.worthOfShare(live.state, house, 0);
        }
        long prize = land.worthOf(live.state, house, plot);
        if (!otherGoes) {
            return prize;
        }
        boolean stronger = land.strengthOf(live.state, house) > land.strengthOf(live.state, other);
        return stronger ? prize - 5 : 0;
    }

    // ---- an image

    public void image() {
        kept.copyFrom(live);
        hasImage = true;
    }

    public boolean restore() {
        if (!hasImage) {
            return false;
        }
        live.copyFrom(kept);
        return true;
    }

    // ---- what a call needs

    private void needHouse(int house) {
        if (!land.island.hasHouse(house)) {
            throw new NoSuchElementException();
        }
    }

    private void needPlot(int plot) {
        if (!land.island.hasPlot(plot)) {
            throw new NoSuchElementException();
        }
    }

    private void needWhat(int what, int many) {
        if (what < 0 || what >= many) {
            throw new NoSuchElementException();
        }
    }

    private void needWithin(int number, int least, int most) {
        if (number < least || number > most) {
            throw new IllegalArgumentException();
        }
    }

    /** The bytes that were fed. */
    private static final class Tape {
        final byte[] bytes = new byte[MOST_TEXT];
        int fed = 0;

        void append(int four) {
            for (int shift = 24; shift >= 0 && fed < bytes.length; shift -= 8) {
                bytes[fed] = (byte) (four >> shift);
                fed++;
            }
        }
    }

    /** A text as a row of symbols: a sign is its own byte, words stand above all bytes, values above words. */
    private static final class Tokens {
        static final int END = 0;
        static final int NUMBER = 1;
        static final int LONG_NUMBER = 2;
        static final int NOTHING = 3;
        static final int FIRST_WORD = 128;
        static final int HOUSE = 128;
        static final int PLOT = 129;
        static final int MARKET = 130;
        static final int EATS = 131;
        static final int WORTH = 132;
        static final int YIELDS = 133;
        static final int OR = 134;
        static final int AND = 135;
        static final int NOT = 136;
        static final int OTHER_WORD = 137;
        static final int FIRST_VALUE = 140;
        static final int RAIN = FIRST_VALUE + Land.RAIN;

        private final byte[] bytes;
        private final int[] symbols = new int[MOST_TEXT];
        private final int[] starts = new int[MOST_TEXT];
        private final int[] numbers = new int[MOST_TEXT];
        private int length;
        private int next;
        private int size;

        Tokens(Tape tape) {
            bytes = tape.bytes;
        }

        void cut(int textLength) {
            length = Math.min(textLength, bytes.length);
            next = 0;
            size = 0;
            skipBlanks();
            while (next < length && size < MOST_TEXT) {
                cutOne();
                size++;
                skipBlanks();
            }
        }

        int symbolAt(int i) {
            return i >= 0 && i < size ? symbols[i] : END;
        }

        /** Behind the last token the text's length: there it ends too soon. */
        int startAt(int i) {
            return i >= 0 && i < size ? starts[i] : length;
        }

        int numberAt(int i) {
            return i >= 0 && i < size ? numbers[i] : 0;
        }

        private void skipBlanks() {
            while (next < length && (bytes[next] == ' ' || bytes[next] == '\n')) {
                next++;
            }
        }

        private void cutOne() {
            starts[size] = next;
            numbers[size] = 0;
            if (isLetter(next)) {
                cutWord();
            } else if (isDigit(next)) {
                cutNumber();
            } else {
                symbols[size] = signOf(bytes[next]);
                next++;
            }
        }

        private boolean isLetter(int at) {
            return at < length && bytes[at] >= 'a' && bytes[at] <= 'z';
        }

        private boolean isDigit(int at) {
            return at < length && bytes[at] >= '0' && bytes[at] <= '9';
        }

        private void cutWord() {
            int start = next;
            while (next < length && isLetter(next)) {
                next++;
            }
            int word = keywordOf(start, next);
            symbols[size] = word == OTHER_WORD ? valueOf(start, next) : word;
        }

        /** Digits behind the fourth are not reckoned: such a number is refused wherever it stands. */
        private void cutNumber() {
            int digits = 0;
            int number = 0;
            while (next < length && isDigit(next)) {
                if (digits < 4) {
                    number = 10 * number + bytes[next] - '0';
                }
                digits++;
                next++;
            }
            symbols[size] = digits > 4 ? LONG_NUMBER : NUMBER;
            numbers[size] = number;
        }

        private static int signOf(int letter) {
            switch (letter) {
                case ';':
                case '(':
                case ')':
                case '+':
                case '-':
                case '*':
                case '/':
                case '<':
                case '=':
                    return letter;
                default:
                    return NOTHING;
            }
        }

        private int keywordOf(int from, int to) {
            if (spells(from, to, "house")) {
                return HOUSE;
            } else if (spells(from, to, "plot")) {
                return PLOT;
            } else if (spells(from, to, "market")) {
                return MARKET;
            } else if (spells(from, to, "eats")) {
                return EATS;
            } else if (spells(from, to, "worth")) {
                return WORTH;
            } else if (spells(from, to, "yields")) {
                return YIELDS;
            } else if (spells(from, to, "or")) {
                return OR;
            } else if (spells(from, to, "and")) {
                return AND;
            } else if (spells(from, to, "not")) {
                return NOT;
            }
            return OTHER_WORD;
        }

        private int valueOf(int from, int to) {
            if (spells(from, to, "strength")) {
                return FIRST_VALUE + Land.STRENGTH;
            } else if (spells(from, to, "tribe")) {
                return FIRST_VALUE + Land.TRIBE;
            } else if (spells(from, to, "water")) {
                return FIRST_VALUE + Land.WATER;
            } else if (spells(from, to, "walk")) {
                return FIRST_VALUE + Land.WALK;
            } else if (spells(from, to, "younger")) {
                return FIRST_VALUE + Land.YOUNGER;
            } else if (spells(from, to, "rain")) {
                return RAIN;
            } else if (spells(from, to, "year")) {
                return FIRST_VALUE + Land.YEAR;
            }
            return OTHER_WORD;
        }

        private boolean spells(int from, int to, String word) {
            if (from < 0 || to > bytes.length || to - from != word.length()) {
                return false;
            }
            for (int i = 0; i < word.length(); i++) {
                if (bytes[from + i] != word.charAt(i)) {
                    return false;
                }
            }
            return true;
        }
    }

    /** Reads an island's text, one method for each rule of its grammar, and stops at the first fault. */
    private static final class Reader {
        static final int MISPLACED = 1;
        static final int TOO_MUCH = 2;
        static final int NO_VALUE = 3;
        static final int SAME_PLACE = 4;
        static final int TOLD_TWICE = 5;
        static final int MOST_DEPTH = 6;
        static final int MOST_NOTS = 6;

        private final Tokens tokens;
        private Island island;
        private Rule rule;
        private int values;
        private int at;
        private int symbol;
        private int fault;
        int place = NONE;

        Reader(Tape tape, Island draft) {
            tokens = new Tokens(tape);
            island = draft;
            rule = draft.worth;
        }

        /** 0, or the fault, whose place is kept. */
        int read(Island into, int length) {
            into.clear();
            island = into;
            fault = 0;
            place = NONE;
            tokens.cut(length);
            at = 0;
            symbol = tokens.symbolAt(0);
            for (int line = 0; line <= MOST_TEXT && fault == 0 && symbol != Tokens.END; line++) {
                readLine();
            }
            if (fault != 0) {
                place = tokens.startAt(at);
            }
            return fault;
        }

        private void advance() {
            at++;
            symbol = tokens.symbolAt(at);
        }

        /** Only the first fault counts: nothing is read behind it, so that its token stays the one at hand. */
        private void refuseAs(int kind) {
            if (fault == 0) {
                fault = kind;
            }
        }

        private void readLine() {
            switch (symbol) {
                case Tokens.HOUSE:
                    readHouse();
                    break;
                case Tokens.PLOT:
                    readPlot();
                    break;
                case Tokens.MARKET:
                    readMarket();
                    break;
                case Tokens.RAIN:
                    readRain();
                    break;
                case Tokens.EATS:
                    readEats();
                    break;
                case Tokens.WORTH:
                    readRule(island.worth, Land.VALUES_OF_WORTH);
                    break;
                case Tokens.YIELDS:
                    readRule(island.yields, Land.VALUES);
                    break;
                default:
                    refuseAs(MISPLACED);
                    break;
            }
            readSign(';');
        }

        private void readHouse() {
            if (island.houses >= MOST_HOUSES) {
                refuseAs(TOO_MUCH);
                return;
            }
            advance();
            int elder = readNumber(9);
            int younger = readNumber(9);
            int tribe = readNumber(2);
            island.addHouse(elder, younger, tribe);
        }

        private void readPlot() {
            if (island.plots >= MOST_PLOTS) {
                refuseAs(TOO_MUCH);
                return;
            }
            advance();
            int x = readNumber(FARTHEST);
            int y = peekNumber(FARTHEST);
            if (fault == 0 && island.hasPlotAt(x, y)) {
                refuseAs(SAME_PLACE);
            }
            readNumber(FARTHEST);
            int water = readNumber(9);
            island.addPlot(x, y, water);
        }

        private void readMarket() {
            if (island.marketTold) {
                refuseAs(TOLD_TWICE);
                return;
            }
            advance();
            island.marketTold = true;
            island.marketX = readNumber(FARTHEST);
            island.marketY = readNumber(FARTHEST);
        }

        private void readRain() {
            if (island.rains > 0) {
                refuseAs(TOLD_TWICE);
                return;
            }
            advance();
            island.addRain(readNumber(9));
            for (int many = 1; many < MOST_RAIN && fault == 0 && isNumber(); many++) {
                island.addRain(readNumber(9));
            }
            if (isNumber()) {
                refuseAs(TOO_MUCH);
            }
        }

        private void readEats() {
            if (island.eatsTold) {
                refuseAs(TOLD_TWICE);
                return;
            }
            advance();
            island.eatsTold = true;
            island.eats = readNumber(20);
        }

        private void readRule(Rule told, int valuesOfIt) {
            if (told.isTold()) {
                refuseAs(TOLD_TWICE);
                return;
            }
            advance();
            rule = told;
            values = valuesOfIt;
            readExpr(0);
        }

        private boolean isNumber() {
            return symbol == Tokens.NUMBER || symbol == Tokens.LONG_NUMBER;
        }

        private int readNumber(int most) {
            int number = peekNumber(most);
            if (fault == 0) {
                advance();
            }
            return number;
        }

        private int peekNumber(int most) {
            int number = tokens.numberAt(at);
            if (!isNumber()) {
                refuseAs(MISPLACED);
            } else if (symbol == Tokens.LONG_NUMBER || number > most) {
                refuseAs(TOO_MUCH);
            }
            return number;
        }

        private void readSign(int sign) {
            if (symbol != sign) {
                refuseAs(MISPLACED);
            }
            if (fault == 0) {
                advance();
            }
        }

        /** Depth: within how many others this one stands. */
        private void readExpr(int depth) {
            if (depth >= MOST_DEPTH) {
                refuseAs(mayBeginExpr() ? TOO_MUCH : MISPLACED);
                return;
            }
            readAnd(depth);
            for (int i = 0; i < MOST_TEXT && fault == 0 && symbol == Tokens.OR; i++) {
                advance();
                readAnd(depth);
                rule.add(Rule.OR);
            }
        }

        private boolean mayBeginExpr() {
            return isNumber() || symbol >= Tokens.FIRST_WORD || symbol == '(';
        }

        private void readAnd(int depth) {
            readNot(depth);
            for (int i = 0; i < MOST_TEXT && fault == 0 && symbol == Tokens.AND; i++) {
                advance();
                readNot(depth);
                rule.add(Rule.AND);
            }
        }

        private void readNot(int depth) {
            int nots = 0;
            while (nots < MOST_NOTS && symbol == Tokens.NOT) {
                advance();
                nots++;
            }
            if (symbol == Tokens.NOT) {
                refuseAs(TOO_MUCH);
            }
            readTest(depth);
            for (int i = 0; i < nots; i++) {
                rule.add(Rule.NOT);
            }
        }

        private void readTest(int depth) {
            readSum(depth);
            if (fault == 0 && (symbol == '<' || symbol == '=')) {
                int step = symbol == '<' ? Rule.LESS : Rule.EQUAL;
                advance();
                readSum(depth);
                rule.add(step);
            }
        }

        private void readSum(int depth) {
            readProduct(depth);
            for (int i = 0; i < MOST_TEXT && fault == 0 && (symbol == '+' || symbol == '-'); i++) {
                int step = symbol == '+' ? Rule.PLUS : Rule.MINUS;
                advance();
                readProduct(depth);
                rule.add(step);
            }
        }

        private void readProduct(int depth) {
            readPart(depth);
            for (int i = 0; i < MOST_TEXT && fault == 0 && (symbol == '*' || symbol == '/'); i++) {
                int step = symbol == '*' ? Rule.TIMES : Rule.DIVIDE;
                advance();
                readPart(depth);
                rule.add(step);
            }
        }

        private void readPart(int depth) {
            if (fault != 0) {
                return;
            }
            if (symbol == Tokens.NUMBER) {
                rule.add(tokens.numberAt(at));
                advance();
            } else if (symbol == Tokens.LONG_NUMBER) {
                refuseAs(TOO_MUCH);
            } else if (symbol >= Tokens.FIRST_WORD) {
                readValue(symbol - Tokens.FIRST_VALUE);
            } else if (symbol == '(') {
                advance();
                readExpr(depth + 1);
                readSign(')');
            } else {
                refuseAs(MISPLACED);
            }
        }

        private void readValue(int value) {
            if (value < 0 || value >= values) {
                refuseAs(NO_VALUE);
                return;
            }
            rule.add(Rule.FIRST_VALUE - value);
            advance();
        }
    }

    /** An expression as a row of steps: a number of 0 or more is put on the stack, what is below 0 is a step. */
    private static final class Rule {
        static final int OR = -1;
        static final int AND = -2;
        static final int NOT = -3;
        static final int LESS = -4;
        static final int EQUAL = -5;
        static final int PLUS = -6;
        static final int MINUS = -7;
        static final int TIMES = -8;
        static final int DIVIDE = -9;
        static final int FIRST_VALUE = -10;
        /** Each of 6 expressions keeps at most 5 left sides waiting: 31 is the most there can be. */
        static final int MOST_WAITING = 40;

        private final int[] steps = new int[MOST_TEXT];
        private final int[] stack = new int[MOST_WAITING];
        private int length;

        void clear() {
            length = 0;
        }

        boolean isTold() {
            return length > 0;
        }

        /** A token gives at most one step, so that there is room for those of every text. */
        void add(int step) {
            if (length < steps.length) {
                steps[length] = step;
                length++;
            }
        }

        int reckon(int[] values) {
            int top = 0;
            for (int i = 0; i < length && i < steps.length; i++) {
                int step = steps[i];
                if (step >= 0 || step <= FIRST_VALUE) {
                    if (top < stack.length) {
                        stack[top] = step >= 0 ? step : valueOf(values, FIRST_VALUE - step);
                        top++;
                    }
                } else if (step == NOT) {
                    if (top >= 1) {
                        stack[top - 1] = stack[top - 1] == 0 ? 1 : 0;
                    }
                } else if (top >= 2) {
                    top--;
                    stack[top - 1] = join(step, stack[top - 1], stack[top]);
                }
            }
            return stack[0];
        }

        private static int valueOf(int[] values, int value) {
            return value >= 0 && value < values.length ? values[value] : 0;
        }

        private static int join(int step, int left, int right) {
            switch (step) {
                case OR: return left != 0 || right != 0 ? 1 : 0;
                case AND: return left != 0 && right != 0 ? 1 : 0;
                case LESS: return left < right ? 1 : 0;
                case EQUAL: return left == right ? 1 : 0;
                case PLUS: return left + right;
                case MINUS: return left - right;
                case TIMES: return left * right;
                case DIVIDE: return right == 0 ? 0 : left / right;
                default: return 0;
            }
        }
    }

    /** What a text tells; no act changes it. */
    private static final class Island {
        final int[] elder = new int[MOST_HOUSES];
        final int[] younger = new int[MOST_HOUSES];
        final int[] tribe = new int[MOST_HOUSES];
        final int[] plotX = new int[MOST_PLOTS];
        final int[] plotY = new int[MOST_PLOTS];
        final int[] water = new int[MOST_PLOTS];
        final int[] rain = new int[MOST_RAIN];
        final Rule worth = new Rule();
        final Rule yields = new Rule();
        int houses = 0;
        int plots = 0;
        int rains = 0;
        int marketX = 10;
        int marketY = 10;
        int eats = 4;
        boolean marketTold = false;
        boolean eatsTold = false;

        void clear() {
            houses = 0;
            plots = 0;
            rains = 0;
            marketX = 10;
            marketY = 10;
            eats = 4;
            marketTold = false;
            eatsTold = false;
            worth.clear();
            yields.clear();
        }

        void addHouse(int elderStrength, int youngerStrength, int itsTribe) {
            if (houses < MOST_HOUSES) {
                elder[houses] = elderStrength;
                younger[houses] = youngerStrength;
                tribe[houses] = itsTribe;
                houses++;
            }
        }

        void addPlot(int x, int y, int itsWater) {
            if (plots < MOST_PLOTS) {
                plotX[plots] = x;
                plotY[plots] = y;
                water[plots] = itsWater;
                plots++;
            }
        }

        void addRain(int amount) {
            if (rains < MOST_RAIN) {
                rain[rains] = amount;
                rains++;
            }
        }

        boolean hasHouse(int house) {
            return house >= 0 && house < houses && house < MOST_HOUSES;
        }

        boolean hasPlot(int plot) {
            return plot >= 0 && plot < plots && plot < MOST_PLOTS;
        }

        boolean hasPlotAt(int x, int y) {
            for (int plot = 0; plot < plots; plot++) {
                if (plotX[plot] == x && plotY[plot] == y) {
                    return true;
                }
            }
            return false;
        }

        int rainIn(int year) {
            if (rains <= 0 || rains > MOST_RAIN) {
                return 3;
            }
            return rain[Math.floorMod(year, rains)];
        }
    }

    /** All that acts change. */
    private static final class State {
        /** Seven numbers and three rows. */
        static final int CELLS = 7 + 3 * MOST_HOUSES;

        int lots;
        int gone;
        int marketX = 10;
        int marketY = 10;
        int year;
        int tithe;
        int curses;
        final int[] place = new int[MOST_HOUSES];
        final int[] share = new int[MOST_HOUSES];
        final int[] store = new int[MOST_HOUSES];

        void begin(Island island) {
            lots = 0;
            marketX = island.marketX;
            marketY = island.marketY;
            tithe = 0;
            curses = 0;
            for (int house = 0; house < MOST_HOUSES; house++) {
                place[house] = house;
                share[house] = NONE;
            }
            beginYears();
        }

        void beginYears() {
            year = 0;
            gone = 0;
            for (int house = 0; house < MOST_HOUSES; house++) {
                store[house] = 0;
            }
        }

        /** 0 the elder goes, 1 the younger. */
        int lotOf(int house) {
            return lots >> house & 1;
        }

        boolean isGone(int house) {
            return (gone >> house & 1) != 0;
        }

        void turnLot(int house) {
            lots ^= 1 << house;
        }

        void storeAndEat(int house, int crop, int eats) {
            if (house < 0 || house >= MOST_HOUSES) {
                return;
            }
            int owed = crop / 10;
            tithe += owed;
            int grain = Math.min(MOST_STORE, store[house] + crop - owed);
            if (grain < eats) {
                store[house] = 0;
                gone |= 1 << house;
            } else {
                store[house] = grain - eats;
            }
        }

        void moveInOrder(int house, int to) {
            if (house < 0 || house >= MOST_HOUSES) {
                return;
            }
            int from = place[house];
            for (int other = 0; other < MOST_HOUSES; other++) {
                if (place[other] > from) {
                    place[other]--;
                }
                if (place[other] >= to) {
                    place[other]++;
                }
            }
            place[house] = to;
        }

        int houseAt(int wanted) {
            for (int house = 0; house < MOST_HOUSES; house++) {
                if (place[house] == wanted) {
                    return house;
                }
            }
            return NONE;
        }

        /** Where there is no house the store stays empty. */
        int allStores() {
            int all = 0;
            for (int house = 0; house < MOST_HOUSES; house++) {
                all += store[house];
            }
            return all;
        }

        int mostStore() {
            int most = 0;
            for (int house = 0; house < MOST_HOUSES; house++) {
                most = Math.max(most, store[house]);
            }
            return most;
        }

        void copyFrom(State other) {
            lots = other.lots;
            gone = other.gone;
            marketX = other.marketX;
            marketY = other.marketY;
            year = other.year;
            tithe = other.tithe;
            curses = other.curses;
            for (int house = 0; house < MOST_HOUSES; house++) {
                place[house] = other.place[house];
                share[house] = other.share[house];
                store[house] = other.store[house];
            }
        }

        void writeTo(int[] cells, int at) {
            if (at < 0 || at > cells.length - CELLS) {
                return;
            }
            cells[at] = lots;
            cells[at + 1] = gone;
            cells[at + 2] = marketX;
            cells[at + 3] = marketY;
            cells[at + 4] = year;
            cells[at + 5] = tithe;
            cells[at + 6] = curses;
            for (int house = 0; house < MOST_HOUSES; house++) {
                cells[at + 7 + house] = place[house];
                cells[at + 7 + MOST_HOUSES + house] = share[house];
                cells[at + 7 + 2 * MOST_HOUSES + house] = store[house];
            }
        }

        void readFrom(int[] cells, int at) {
            if (at < 0 || at > cells.length - CELLS) {
                return;
            }
            lots = cells[at];
            gone = cells[at + 1];
            marketX = cells[at + 2];
            marketY = cells[at + 3];
            year = cells[at + 4];
            tithe = cells[at + 5];
            curses = cells[at + 6];
            for (int house = 0; house < MOST_HOUSES; house++) {
                place[house] = cells[at + 7 + house];
                share[house] = cells[at + 7 + MOST_HOUSES + house];
                store[house] = cells[at + 7 + 2 * MOST_HOUSES + house];
            }
        }
    }

    /** How things were ahead of each act that is kept, in a ring: a new act takes the place of the oldest one. */
    private static final class History {
        private final int[] cells = new int[MOST_ACTS * State.CELLS];
        private int oldest = 0;
        int size = 0;

        void clear() {
            oldest = 0;
            size = 0;
        }

        void keep(State state) {
            state.writeTo(cells, (oldest + size) % MOST_ACTS * State.CELLS);
            if (size < MOST_ACTS) {
                size++;
            } else {
                oldest = (oldest + 1) % MOST_ACTS;
            }
        }

        void takeLast(State into) {
            if (size > 0) {
                size--;
                into.readFrom(cells, (oldest + size) % MOST_ACTS * State.CELLS);
            }
        }

        void copyFrom(History other) {
            System.arraycopy(other.cells, 0, cells, 0, cells.length);
            oldest = other.oldest;
            size = other.size;
        }
    }

    /** What is seen: that a settler harvests so much in a year. */
    private static final class Sights {
        final int[] house = new int[MOST_SEEN];
        final int[] year = new int[MOST_SEEN];
        final int[] harvest = new int[MOST_SEEN];
        int size = 0;

        void add(int seenHouse, int seenYear, int seenHarvest) {
            if (size < MOST_SEEN) {
                house[size] = seenHouse;
                year[size] = seenYear;
                harvest[size] = seenHarvest;
                size++;
            }
        }

        void copyFrom(Sights other) {
            for (int i = 0; i < MOST_SEEN; i++) {
                house[i] = other.house[i];
                year[i] = other.year[i];
                harvest[i] = other.harvest[i];
            }
            size = other.size;
        }
    }

    /** All that an image keeps. */
    private static final class Chronicle {
        final State state = new State();
        final History history = new History();
        final Sights sights = new Sights();
        final int[] refused = new int[3];

        /** A new island does not make the calls that were refused undone. */
        void begin(Island island) {
            state.begin(island);
            history.clear();
            sights.size = 0;
        }

        void copyFrom(Chronicle other) {
            state.copyFrom(other.state);
            history.copyFrom(other.history);
            sights.copyFrom(other.sights);
            for (int i = 0; i < refused.length; i++) {
                refused[i] = other.refused[i];
            }
        }
    }

    /** The new land: who takes which share there, what it is worth and what it bears, in a state that is given. */
    private static final class Land {
        static final int STRENGTH = 0;
        static final int TRIBE = 1;
        static final int WATER = 2;
        static final int WALK = 3;
        static final int YOUNGER = 4;
        static final int RAIN = 5;
        static final int YEAR = 6;
        static final int VALUES = 7;
        /** All but rain and year. */
        static final int VALUES_OF_WORTH = 5;

        private final int[] values = new int[VALUES];
        Island island = new Island();

        int strengthOf(State state, int house) {
            if (!island.hasHouse(house)) {
                return 0;
            }
            return state.lotOf(house) == 0 ? island.elder[house] : island.younger[house];
        }

        int allStrength(State state) {
            int all = 0;
            for (int house = 0; house < island.houses; house++) {
                all += strengthOf(state, house);
            }
            return all;
        }

        int walkToMarket(State state, int plot) {
            if (!island.hasPlot(plot)) {
                return 0;
            }
            return walk(island.plotX[plot], island.plotY[plot], state.marketX, state.marketY);
        }

        int walksToShares(State state, int x, int y) {
            int walks = 0;
            for (int house = 0; house < island.houses; house++) {
                int share = state.share[house];
                if (island.hasPlot(share)) {
                    walks += walk(x, y, island.plotX[share], island.plotY[share]);
                }
            }
            return walks;
        }

        private static int walk(int x, int y, int toX, int toY) {
            return Math.abs(toX - x) + Math.abs(toY - y);
        }

        private void tellValues(State state, int house, int lot, int plot) {
            if (!island.hasHouse(house) || !island.hasPlot(plot)) {
                return;
            }
            values[STRENGTH] = lot == 0 ? island.elder[house] : island.younger[house];
            values[TRIBE] = island.tribe[house];
            values[WATER] = island.water[plot];
            values[WALK] = walk(island.plotX[plot], island.plotY[plot], state.marketX, state.marketY);
            values[YOUNGER] = lot;
        }

        int worthOf(State state, int house, int plot) {
            tellValues(state, house, state.lotOf(house), plot);
            if (island.worth.isTold()) {
                return island.worth.reckon(values);
            }
            return 2 * values[WATER] - values[WALK];
        }

        long worthOfShare(State state, int house, long ofNone) {
            if (!island.hasHouse(house) || state.share[house] == NONE) {
                return ofNone;
            }
            return worthOf(state, house, state.share[house]);
        }

        /** What this brother of a house would harvest, as if he had gone and were not gone since. */
        int cropOf(State state, int house, int lot, int plot, int year) {
            if (!island.hasPlot(plot)) {
                return 0;
            }
            tellValues(state, house, lot, plot);
            values[RAIN] = island.rainIn(year);
            values[YEAR] = year;
            int crop = values[WATER] + values[RAIN];
            if (island.yields.isTold()) {
                crop = island.yields.reckon(values);
            }
            return Math.max(0, Math.min(MOST_HARVEST, crop));
        }

        int cropOnShare(State state, int house) {
            if (!island.hasHouse(house)) {
                return 0;
            }
            return cropOf(state, house, state.lotOf(house), state.share[house], state.year);
        }

        /** The absent house (none, if NONE) takes nothing. */
        void takeShares(State state, int absent) {
            int left = allPlots();
            for (int place = 0; place < island.houses; place++) {
                int house = state.houseAt(place);
                if (house == NONE) {
                    continue;
                }
                state.share[house] = house == absent ? NONE : dearest(state, house, left);
                if (state.share[house] != NONE) {
                    left &= ~(1 << state.share[house]);
                }
            }
        }

        private int allPlots() {
            return (1 << island.plots) - 1;
        }

        private int dearest(State state, int house, int left) {
            int dearest = NONE;
            int most = 0;
            for (int plot = 0; plot < island.plots; plot++) {
                if ((left >> plot & 1) == 0) {
                    continue;
                }
                int worth = worthOf(state, house, plot);
                if (dearest == NONE || worth > most) {
                    dearest = plot;
                    most = worth;
                }
            }
            return dearest;
        }

        int ownerOf(State state, int plot) {
            for (int house = 0; house < island.houses; house++) {
                if (state.share[house] == plot) {
                    return house;
                }
            }
            return NONE;
        }

        int plotsLeft(State state) {
            int left = allPlots();
            for (int house = 0; house < island.houses; house++) {
                if (state.share[house] != NONE) {
                    left &= ~(1 << state.share[house]);
                }
            }
            return left;
        }

        /** Whom this settler envies, as bits. */
        int enviedBy(State state, int house) {
            long own = worthOfShare(state, house, Long.MIN_VALUE);
            int envied = 0;
            for (int other = 0; other < island.houses; other++) {
                int share = state.share[other];
                if (other != house && share != NONE && worthOf(state, house, share) > own) {
                    envied |= 1 << other;
                }
            }
            return envied;
        }

        /** Where the seed is then. */
        int drawLots(State state, int seed) {
            int where = seed;
            int lots = 0;
            for (int house = 0; house < island.houses; house++) {
                where = where * 1103515245 + 12345;
                lots |= (where >> 16 & 0x7fff) % 2 << house;
            }
            state.lots = lots;
            return where;
        }

        void passYears(State state, int many) {
            for (int passed = 0; passed < many; passed++) {
                for (int house = 0; house < island.houses; house++) {
                    if (!state.isGone(house)) {
                        state.storeAndEat(house, cropOnShare(state, house), island.eats);
                    }
                }
                state.year++;
            }
        }
    }

    /** All ways to give plots to settlers, one each: what the settlers from one on can have, by plots given ahead. */
    private static final class Pairing {
        /** Below every sum of worths. */
        private static final long NO_WAY = Long.MIN_VALUE;

        private final int[][] worths = new int[MOST_HOUSES][MOST_PLOTS];
        private final long[][] most = new long[MOST_HOUSES + 1][1 << MOST_PLOTS];
        private int houses;
        private int plots;

        void weigh(Land land, State state) {
            houses = Math.min(land.island.houses, MOST_HOUSES);
            plots = Math.min(land.island.plots, MOST_PLOTS);
            for (int house = 0; house < houses; house++) {
                for (int plot = 0; plot < plots; plot++) {
                    worths[house][plot] = land.worthOf(state, house, plot);
                }
            }
        }

        long mostTogether() {
            fill(false);
            return most[0][0];
        }

        int mostForTheLeast() {
            fill(true);
            return (int) most[0][0];
        }

        private void fill(boolean ofTheLeast) {
            int pairs = Math.min(houses, plots);
            long nobody = ofTheLeast ? Long.MAX_VALUE : 0;
            for (int given = 0; given < 1 << plots; given++) {
                most[houses][given] = Integer.bitCount(given) == pairs ? nobody : NO_WAY;
            }
            for (int house = houses - 1; house >= 0; house--) {
                for (int given = 0; given < 1 << plots; given++) {
                    most[house][given] = mostFrom(house, given, ofTheLeast);
                }
            }
        }

        private long mostFrom(int house, int given, boolean ofTheLeast) {
            if (!canBeGiven(house, given)) {
                return NO_WAY;
            }
            long found = most[house + 1][given];
            for (int plot = 0; plot < plots; plot++) {
                if ((given >> plot & 1) != 0) {
                    continue;
                }
                long others = most[house + 1][given | 1 << plot];
                if (others != NO_WAY) {
                    long own = worths[house][plot];
                    found = Math.max(found, ofTheLeast ? Math.min(own, others) : own + others);
                }
            }
            return found;
        }

        /** Most rows of plots can't have been given to just the settlers ahead: passing them over saves the most. */
        private boolean canBeGiven(int house, int given) {
            int without = house - Integer.bitCount(given);
            return without >= 0 && without <= houses - Math.min(houses, plots);
        }

        /** Behind mostTogether() alone: of like ways the first row. */
        int plotFor(int wanted) {
            int given = 0;
            int plot = NONE;
            for (int house = 0; house <= wanted && house < houses; house++) {
                plot = firstPlot(house, given);
                if (plot != NONE) {
                    given |= 1 << plot;
                }
            }
            return plot;
        }

        private int firstPlot(int house, int given) {
            for (int plot = 0; plot < plots; plot++) {
                if ((given >> plot & 1) != 0) {
                    continue;
                }
                long others = most[house + 1][given | 1 << plot];
                if (others != NO_WAY && worths[house][plot] + others == most[house][given]) {
                    return plot;
                }
            }
            return NONE;
        }
    }
}
