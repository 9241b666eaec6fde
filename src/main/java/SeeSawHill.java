import java.util.NoSuchElementException;

/**
 * A hillside on which each two houses share one plank over a stone, and the heavier one goes down.
 * ../shared/DOC.md tells every call; the words in capitals in the comments are its terms.
 */
public final class SeeSawHill {
    public static final int NONE = -1;

    private static final int TAPE_MOST = 400;
    private static final int FEED_BYTES = 20;
    private static final int TOLD_BYTES_MOST = 40;
    private static final int TOLD_GUESTS_MOST = 20;

    private static final int PLANKS_MOST = 5;
    private static final int HOUSES_MOST = 10;
    private static final int THINGS_MOST = 10;
    private static final int SETS_MOST = 1024;

    private static final int TEXTS_MOST = 12;
    private static final int HILL_LINES_MOST = 14;
    private static final int LAW_LINES_MOST = 12;
    private static final int DIGITS_MOST = 3;
    private static final int DEEP_MOST = 6;

    private static final int MIDDLE = 5;
    private static final int HEIGHT_MOST = 10;
    private static final int GUESTS_MOST = 9;
    private static final int GUEST_WEIGHT = 5;
    private static final int PURSE_MOST = 9999;
    private static final int PURSE_TOLD_MOST = 999;
    private static final int WEEK_MOST = 9999;
    private static final int AGE_MOST = 99;
    private static final int SNOW_MOST = 99;
    private static final int WORTH_MOST = 99;
    private static final int WEIGHT_MOST = 60;
    private static final int BEARS_LEAST = 10;
    private static final int BEARS_MOST = 400;
    private static final int STEP_MOST = 40;
    private static final int CHANCE_MOST = 100;
    private static final int FEE_MOST = 99;
    private static final int AMOUNT_MOST = 60;

    private static final int AHEAD_MOST = 100;
    private static final int WEEKS_MOST = 60;
    private static final int SPAN_SEEDS = 6;
    private static final int PAST_MOST = 12;
    private static final int ROWS_MOST = 60;
    private static final int ROW_SIZE = 5;
    private static final int NO_ROW = -2;
    private static final int PAIRED_MOST = 8;
    private static final int GUARDED_MOST = 3;
    private static final int GUARD_THIEVES_MOST = 8;
    private static final int LOOT_THIEVES_MOST = 10;
    private static final int BALLAST_CHOICES = 3;
    private static final int BEARS_NOTHING = -10000;

    // Codes of tokens: a sign that is no letter, digit or blank is its own byte (0 to 255).
    private static final int NUMBER = 256;
    private static final int LONG_NUMBER = 257;
    private static final int NO_WORD = 258;
    private static final int TEXT_END = 259;

    // In the order of the codes behind, each with a blank behind it.
    private static final String WORDS =
            "plank purse guests thing snow step fall thieves fee worth in age rent lure if or and not up level house height load aged week ";
    private static final int PLANK = 300;
    private static final int PURSE = 301;
    private static final int GUESTS = 302;
    private static final int THING = 303;
    private static final int SNOW = 304;
    private static final int STEP = 305;
    private static final int FALL = 306;
    private static final int THIEVES = 307;
    private static final int FEE = 308;
    private static final int WORTH = 309;
    private static final int IN = 310;
    private static final int AGE = 311;
    private static final int RENT = 312;
    private static final int LURE = 313;
    private static final int IF = 314;
    private static final int OR = 315;
    private static final int AND = 316;
    private static final int NOT = 317;
    private static final int UP = 318;
    private static final int LEVEL = 319;
    private static final int HOUSE = 320;
    private static final int HEIGHT = 321;
    private static final int LOAD = 322;
    private static final int AGED = 323;
    private static final int WEEK = 324;

    private final byte[] tape;
    private int fed;
    private int wrongAt;
    private final Tokens tokens;
    private final HillReader hillReader;
    private final LawReader lawReader;
    private int texts;
    private final Hill now;
    private final Law rules;
    private final Diary diary;
    // What texts are read into, and what questions try out.
    private final Hill spare;
    private final Law draft;
    private final Diary spareDiary;
    private final Guess guess;
    private final Past past;
    private boolean imaged;
    private int imageTexts;
    private final Hill imageHill;
    private final Law imageRules;
    private final Diary imageDiary;

    public SeeSawHill() {
        tape = new byte[TAPE_MOST];
        fed = 0;
        wrongAt = NONE;
        tokens = new Tokens();
        texts = 0;
        now = new Hill();
        rules = new Law();
        diary = new Diary();
        spare = new Hill();
        draft = new Law();
        spareDiary = new Diary();
        hillReader = new HillReader(tokens, spare);
        lawReader = new LawReader(tokens, draft);
        guess = new Guess();
        past = new Past();
        imaged = false;
        imageTexts = 0;
        imageHill = new Hill();
        imageRules = new Law();
        imageDiary = new Diary();
    }

    // ---- The TAPE and the texts

    public int feed(int a, int b, int c, int d, int e) {
        if (fed + FEED_BYTES > TAPE_MOST) {
            return NONE;
        }
        putBytes(a);
        putBytes(b);
        putBytes(c);
        putBytes(d);
        putBytes(e);
        return fed;
    }

    private void putBytes(int number) {
        for (int shift = 24; shift >= 0 && fed < TAPE_MOST; shift -= 8) {
            tape[fed] = (byte) (number >>> shift);
            fed++;
        }
    }

    public boolean end(int n) {
        if (n < 0 || n > fed) {
            return false;
        }
        fed = n;
        return true;
    }

    private int useTapeUp() {
        int length = fed;
        fed = 0;
        return length;
    }

    public int hill() throws IllegalArgumentException, UnsupportedOperationException {
        tokens.split(tape, useTapeUp());
        spare.copyFrom(now);
        wrongAt = hillReader.read();
        if (wrongAt != NONE) {
            throw new IllegalArgumentException();
        }
        if (texts >= TEXTS_MOST) {
            throw new UnsupportedOperationException();
        }
        texts++;
        spare.weigh();
        now.copyFrom(spare);
        past.forget();
        return texts;
    }

    public int law() throws IllegalArgumentException {
        tokens.split(tape, useTapeUp());
        draft.clear();
        wrongAt = lawReader.read();
        if (wrongAt != NONE) {
            throw new IllegalArgumentException();
        }
        rules.copyFrom(draft);
        past.forget();
        return rules.lines;
    }

    public int fault() {
        return wrongAt;
    }

    // ---- PLANKS, HOUSES, THINGS

    private void checkPlank(int plank) {
        if (plank < 0 || plank >= now.planks) {
            throw new IndexOutOfBoundsException();
        }
    }

    private void checkHouse(int house) {
        if (house < 0 || house >= now.houses()) {
            throw new IndexOutOfBoundsException();
        }
    }

    private void checkThing(int thing) {
        if (thing < 0 || thing >= now.things) {
            throw new IndexOutOfBoundsException();
        }
    }

    private static void checkNumber(int n, int least, int most) {
        if (n < least || n > most) {
            throw new IllegalArgumentException();
        }
    }

    public int plank(int plank, int what) throws IndexOutOfBoundsException, NoSuchElementException {
        checkPlank(plank);
        switch (what) {
            case 0:
                return now.bears[plank];
            case 1:
                return now.age[plank];
            case 2:
                return now.propped[plank] ? 1 : 0;
            case 3:
                return now.broken[plank] ? 1 : 0;
            case 4:
                return now.tiltOf(plank) + MIDDLE;
            case 5:
                return now.isLevel(plank) ? 1 : 0;
            case 6:
                return now.agesBy(rules, plank);
            default:
                throw new NoSuchElementException();
        }
    }

    public int house(int house, int what) throws IndexOutOfBoundsException, NoSuchElementException {
        checkHouse(house);
        switch (what) {
            case 0:
                return now.purse[house];
            case 1:
                return now.guests[house];
            case 2:
                return now.load[house];
            case 3:
                return now.height[house];
            case 4:
                return now.thingsIn(house);
            case 5:
                return now.paysBy(rules, house);
            case 6:
                return now.luresBy(rules, house);
            case 7:
                return now.shareOf(house);
            case 8:
                return now.corkOf(house);
            default:
                throw new NoSuchElementException();
        }
    }

    public int thing(int thing, int what) throws IndexOutOfBoundsException, NoSuchElementException {
        checkThing(thing);
        switch (what) {
            case 0:
                return now.weight[thing];
            case 1:
                return now.worth[thing];
            case 2:
                return now.home[thing];
            default:
                throw new NoSuchElementException();
        }
    }

    // ---- ACTS

    public int carry(int thing, int house) throws IndexOutOfBoundsException, IllegalStateException {
        checkThing(thing);
        checkHouse(house);
        int from = now.home[thing];
        if (from == NONE) {
            throw new IllegalStateException();
        }
        past.remember(now, diary);
        diary.addRow(now.week, thing, from, house);
        now.home[thing] = house;
        now.weigh();
        return from;
    }

    public int guests(int house, int n) throws IndexOutOfBoundsException, IllegalArgumentException {
        checkHouse(house);
        checkNumber(n, 0, GUESTS_MOST);
        past.remember(now, diary);
        int were = now.guests[house];
        now.guests[house] = n;
        now.weigh();
        return were;
    }

    public boolean prop(int plank, boolean is) throws IndexOutOfBoundsException {
        checkPlank(plank);
        past.remember(now, diary);
        boolean was = now.propped[plank];
        now.propped[plank] = is;
        now.weigh();
        return was != is;
    }

    public int mend(int plank) throws IndexOutOfBoundsException, IllegalStateException {
        checkPlank(plank);
        if (!now.broken[plank]) {
            throw new IllegalStateException();
        }
        past.remember(now, diary);
        int was = now.age[plank];
        now.broken[plank] = false;
        now.age[plank] = 0;
        now.weigh();
        return was;
    }

    public int give(int house, int other, int n) throws IndexOutOfBoundsException, IllegalArgumentException {
        checkHouse(house);
        checkHouse(other);
        if (house == other) {
            throw new IllegalArgumentException();
        }
        checkNumber(n, 1, now.purse[house]);
        past.remember(now, diary);
        now.purse[house] -= n;
        now.purse[other] = Math.min(PURSE_MOST, now.purse[other] + n);
        return now.purse[other];
    }

    public int sweep() {
        past.remember(now, diary);
        int was = now.snow;
        now.snow = 0;
        now.weigh();
        return was;
    }

    public int weeks(int n) throws IllegalArgumentException {
        checkNumber(n, 1, WEEKS_MOST);
        past.remember(now, diary);
        int stolen = 0;
        for (int week = 0; week < n; week++) {
            stolen += now.passWeek(rules, diary);
        }
        return stolen;
    }

    // ---- How the PLANKS stand

    public int view() {
        int set = 0;
        for (int house = 0; house < now.houses(); house++) {
            if (now.height[house] > MIDDLE) {
                set |= 1 << house;
            }
        }
        return set;
    }

    public int well() {
        int set = 0;
        for (int house = 0; house < now.houses(); house++) {
            if (now.height[house] < MIDDLE) {
                set |= 1 << house;
            }
        }
        return set;
    }

    public int twins() {
        int pairs = 0;
        for (int one = 0; one < now.planks; one++) {
            for (int other = one + 1; other < now.planks; other++) {
                boolean whole = !now.broken[one] && !now.broken[other];
                if (whole && now.tiltOf(one) == now.tiltOf(other)) {
                    pairs++;
                }
            }
        }
        return pairs;
    }

    public int best(int plank) throws IndexOutOfBoundsException {
        checkPlank(plank);
        return Carrying.levelling(now, plank);
    }

    public int stand(int plank, int tilt) throws IndexOutOfBoundsException, IllegalArgumentException {
        checkPlank(plank);
        checkNumber(tilt, -MIDDLE, MIDDLE);
        return Carrying.leastSet(now, plank, tilt, false);
    }

    public int heave(int plank, int tilt, boolean much) throws IndexOutOfBoundsException, IllegalArgumentException {
        checkPlank(plank);
        checkNumber(tilt, -MIDDLE, MIDDLE);
        int set = Carrying.leastSet(now, plank, tilt, true);
        return much && set != NONE ? now.weightOf(set) : set;
    }

    public int breaks(int plank) throws IndexOutOfBoundsException {
        checkPlank(plank);
        return weeksToBreak(plank);
    }

    private int weeksToBreak(int plank) {
        if (now.broken[plank]) {
            return NONE;
        }
        spare.copyFrom(now);
        for (int week = 1; week <= AHEAD_MOST; week++) {
            spare.growOld(rules, plank);
            spare.turnWeek();
            if (spare.broken[plank]) {
                return week;
            }
        }
        return NONE;
    }

    public int more(int plank) throws IndexOutOfBoundsException {
        checkPlank(plank);
        return now.broken[plank] ? BEARS_NOTHING : now.bearsMore(plank);
    }

    public int last() {
        int latest = NONE;
        int latestWeek = NONE;
        for (int plank = 0; plank < now.planks; plank++) {
            if (now.broken[plank]) {
                continue;
            }
            int week = weeksToBreak(plank);
            if (week == NONE) {
                return plank;
            }
            if (week > latestWeek) {
                latest = plank;
                latestWeek = week;
            }
        }
        return latest;
    }

    public int match(int houses, int house) throws IndexOutOfBoundsException {
        if (house != NONE) {
            checkHouse(house);
        }
        int set = houses & ((1 << now.houses()) - 1);
        int many = Integer.bitCount(set);
        if (many % 2 != 0 || many > PAIRED_MOST) {
            return NONE;
        }
        return house == NONE ? Marriage.howMuch(now.load, set) : Marriage.partnerOf(now.load, set, house);
    }

    // ---- What somebody has

    public int has(int plank, boolean sure) throws IndexOutOfBoundsException, IllegalArgumentException {
        findFits(plank);
        return sure ? guess.inAll : guess.fits;
    }

    public int ask(int plank) throws IndexOutOfBoundsException, IllegalArgumentException {
        findFits(plank);
        return guess.fits < 2 ? NONE : guess.bestAsk(now, plank);
    }

    private void findFits(int plank) {
        int length = useTapeUp();
        checkPlank(plank);
        if (!Guess.isTold(tape, length)) {
            throw new IllegalArgumentException();
        }
        guess.search(now, plank, tape, length);
    }

    public int ballast(int plank) throws IndexOutOfBoundsException {
        checkPlank(plank);
        return Carrying.restingChoices(now, plank);
    }

    // ---- Thieves

    public int thief() {
        return now.luredTo(rules, 0);
    }

    public int guards(int n, int worth) throws IllegalArgumentException {
        checkNumber(n, 0, GUARD_THIEVES_MOST);
        checkNumber(worth, 0, WORTH_MOST);
        int sets = 1 << now.houses();
        for (int many = 0; many <= GUARDED_MOST; many++) {
            for (int set = 0; set < sets; set++) {
                if (Integer.bitCount(set) == many && isSafe(set, n, worth)) {
                    return set;
                }
            }
        }
        return NONE;
    }

    /** Whether so many thieves take nothing above a WORTH while a set of HOUSES is guarded. */
    private boolean isSafe(int guarded, int thieves, int worth) {
        spare.copyFrom(now);
        for (int thief = 0; thief < thieves; thief++) {
            int stolen = spare.stealOne(rules, guarded);
            if (stolen == NONE) {
                // All stays as it is, so those behind him take nothing either.
                return true;
            }
            if (spare.worth[stolen] > worth) {
                return false;
            }
        }
        return true;
    }

    public int loot(int n) throws IllegalArgumentException {
        checkNumber(n, 0, LOOT_THIEVES_MOST);
        spare.copyFrom(now);
        int sum = 0;
        for (int thief = 0; thief < n; thief++) {
            int stolen = spare.stealOne(rules, 0);
            sum += stolen == NONE ? 0 : spare.worth[stolen];
        }
        return sum;
    }

    // ---- PURSES and neighbours

    public int rent(int house, int n) throws IndexOutOfBoundsException, IllegalArgumentException {
        checkHouse(house);
        checkNumber(n, 0, AHEAD_MOST);
        lookAhead(house / 2, n);
        return now.purse[house] - spare.purse[house];
    }

    /** No PLANK's way AHEAD hangs on another one's, so the others stay as they are. */
    private void lookAhead(int plank, int weeks) {
        spare.copyFrom(now);
        for (int week = 0; week < weeks; week++) {
            spare.payAndGrowOld(rules, plank);
            spare.turnWeek();
        }
    }

    public int poor() {
        spare.copyFrom(now);
        for (int week = 0; week <= AHEAD_MOST; week++) {
            if (spare.hasEmptyPurse()) {
                return week;
            }
            for (int plank = 0; plank < spare.planks; plank++) {
                spare.payAndGrowOld(rules, plank);
            }
            spare.turnWeek();
        }
        return NONE;
    }

    public int rich() {
        int richest = NONE;
        int most = NONE;
        for (int house = 0; house < now.houses(); house++) {
            int owns = now.purse[house] + now.worthIn(house);
            if (owns > most) {
                richest = house;
                most = owns;
            }
        }
        return richest;
    }

    public int heaviest() {
        int heaviest = NONE;
        int most = NONE;
        for (int thing = 0; thing < now.things; thing++) {
            if (now.home[thing] != NONE && now.weight[thing] > most) {
                heaviest = thing;
                most = now.weight[thing];
            }
        }
        return heaviest;
    }

    public int alike() {
        int pairs = 0;
        for (int one = 0; one < now.houses(); one++) {
            for (int other = one + 1; other < now.houses(); other++) {
                if (now.load[one] == now.load[other] && now.height[one] == now.height[other]) {
                    pairs++;
                }
            }
        }
        return pairs;
    }

    public int ahead(int house, int n, boolean purse) throws IndexOutOfBoundsException, IllegalArgumentException {
        checkHouse(house);
        checkNumber(n, 0, AHEAD_MOST);
        lookAhead(house / 2, n);
        return purse ? spare.purse[house] : spare.height[house];
    }

    // ---- Trials

    public int trial(int n, boolean broken) throws IllegalArgumentException {
        checkNumber(n, 0, WEEKS_MOST);
        tryWeeks(now.seed, n);
        return broken ? spare.brokenPlanks() : Integer.bitCount(spare.goneThings());
    }

    public int span(int n, boolean most) throws IllegalArgumentException {
        checkNumber(n, 0, WEEKS_MOST);
        int fewestGone = THINGS_MOST;
        int mostGone = 0;
        for (int seed = 1; seed <= SPAN_SEEDS; seed++) {
            tryWeeks(seed, n);
            int gone = Integer.bitCount(spare.goneThings());
            fewestGone = Math.min(fewestGone, gone);
            mostGone = Math.max(mostGone, gone);
        }
        return most ? mostGone : fewestGone;
    }

    private void tryWeeks(int seed, int weeks) {
        spare.copyFrom(now);
        spare.seed = seed;
        for (int week = 0; week < weeks; week++) {
            spare.passWeek(rules, spareDiary);
        }
    }

    // ---- THE LOG, SEED, UNDONE, THE IMAGE

    public int led(int thing, boolean week) throws IndexOutOfBoundsException {
        checkThing(thing);
        return week ? diary.latestWeekOf(thing) : diary.rowsOf(thing);
    }

    public int log(int ago, int what) throws NoSuchElementException {
        if (what < 0 || what >= ROW_SIZE) {
            throw new NoSuchElementException();
        }
        return diary.cell(ago, what);
    }

    public int seed(int n) {
        int was = now.seed;
        now.seed = n;
        return was;
    }

    public boolean undo() {
        return past.restore(now, diary);
    }

    public void image() {
        imaged = true;
        imageTexts = texts;
        imageHill.copyFrom(now);
        imageRules.copyFrom(rules);
        imageDiary.copyFrom(diary);
    }

    public boolean back() {
        if (!imaged) {
            return false;
        }
        texts = imageTexts;
        now.copyFrom(imageHill);
        rules.copyFrom(imageRules);
        diary.copyFrom(imageDiary);
        past.forget();
        return true;
    }

    public int count(int what) {
        switch (what) {
            case 0:
                return now.planks;
            case 1:
                return now.things;
            case 2:
                return texts;
            case 3:
                return rules.lines;
            case 4:
                return now.week;
            case 5:
                return now.snow;
            case 6:
                return now.step;
            case 7:
                return now.fall;
            case 8:
                return now.thieves;
            case 9:
                return now.fee;
            case 10:
                return now.brokenPlanks();
            case 11:
                return now.goneThings();
            case 12:
                return now.purseSum();
            case 13:
                return diary.rows;
            case 14:
                return past.size;
            default:
                return NONE;
        }
    }

    // ---- What the face is made of

    /** A text cut into words, numbers and signs. */
    private static final class Tokens {
        private final int[] codes;
        private final int[] values;
        private final int[] starts;
        private int size;

        Tokens() {
            codes = new int[TAPE_MOST + 1];
            values = new int[TAPE_MOST + 1];
            starts = new int[TAPE_MOST + 1];
            size = 0;
        }

        /** The text's end counts as a token, too, so that what is missing is wrong there. */
        void split(byte[] text, int length) {
            size = 0;
            int behind = 0;
            for (int at = 0; at < length; at++) {
                if (at >= behind) {
                    behind = addFrom(text, at, length);
                }
            }
            add(TEXT_END, 0, length);
        }

        /** Adds what begins at a byte (a blank is nothing): where it ends. */
        private int addFrom(byte[] text, int at, int length) {
            int sign = text[at] & 255;
            if (isLetter(sign)) {
                int to = lettersEnd(text, at, length);
                add(wordCode(text, at, to), 0, at);
                return to;
            }
            if (isDigit(sign)) {
                int to = digitsEnd(text, at, length);
                boolean isLong = to - at > DIGITS_MOST;
                add(isLong ? LONG_NUMBER : NUMBER, isLong ? 0 : valueOf(text, at, to), at);
                return to;
            }
            if (sign != ' ') {
                add(sign, 0, at);
            }
            return at + 1;
        }

        private static boolean isLetter(int sign) {
            return sign >= 'a' && sign <= 'z';
        }

        private static boolean isDigit(int sign) {
            return sign >= '0' && sign <= '9';
        }

        private static int lettersEnd(byte[] text, int from, int length) {
            int to = from + 1;
            while (to < length && isLetter(text[to])) {
                to++;
            }
            return to;
        }

        private static int digitsEnd(byte[] text, int from, int length) {
            int to = from + 1;
            while (to < length && isDigit(text[to])) {
                to++;
            }
            return to;
        }

        private static int valueOf(byte[] text, int from, int to) {
            int value = 0;
            for (int at = from; at < to; at++) {
                value = 10 * value + text[at] - '0';
            }
            return value;
        }

        private static int wordCode(byte[] text, int from, int to) {
            int length = to - from;
            int code = PLANK;
            int fitting = 0;
            for (int i = 0; i < WORDS.length(); i++) {
                char letter = WORDS.charAt(i);
                if (letter == ' ') {
                    if (fitting == length) {
                        return code;
                    }
                    code++;
                    fitting = 0;
                } else if (fitting >= 0 && fitting < length && text[from + fitting] == letter) {
                    fitting++;
                } else {
                    fitting = NONE;
                }
            }
            return NO_WORD;
        }

        private void add(int code, int value, int start) {
            if (size < codes.length) {
                codes[size] = code;
                values[size] = value;
                starts[size] = start;
                size++;
            }
        }

        int code(int at) {
            return at >= 0 && at < size ? codes[at] : TEXT_END;
        }

        int value(int at) {
            return at >= 0 && at < size ? values[at] : 0;
        }

        int start(int at) {
            return at >= 0 && at < size ? starts[at] : 0;
        }
    }

    /** Reads LINE { ; LINE }; what fails leaves the first wrong token at hand. */
    private abstract static class TextReader {
        final Tokens tokens;
        private final int linesMost;
        int at;

        TextReader(Tokens tokens, int linesMost) {
            this.tokens = tokens;
            this.linesMost = linesMost;
            at = 0;
        }

        abstract boolean readLine();

        /** The first wrong byte; NONE without one. */
        int read() {
            at = 0;
            if (tokens.code(at) == TEXT_END) {
                return NONE;
            }
            for (int line = 0; line < linesMost; line++) {
                if (!readLine()) {
                    return tokens.start(at);
                }
                if (skip(TEXT_END)) {
                    return NONE;
                }
                if (!skip(';')) {
                    return tokens.start(at);
                }
            }
            return tokens.start(at);
        }

        boolean skip(int code) {
            // Not by tokens.code(at), as this is where the longest chain of calls ends.
            if (at >= tokens.size || tokens.codes[at] != code) {
                return false;
            }
            at++;
            return true;
        }

        /** The number at hand, passed over; NONE, if there is none within the bounds. */
        int number(int least, int most) {
            int value = tokens.value(at);
            if (tokens.code(at) != NUMBER || value < least || value > most) {
                return NONE;
            }
            at++;
            return value;
        }
    }

    /** Reads a text of THE HILL into a hill that is thrown away if the text is wrong. */
    private static final class HillReader extends TextReader {
        private final Hill hill;

        HillReader(Tokens tokens, Hill hill) {
            super(tokens, HILL_LINES_MOST);
            this.hill = hill;
        }

        boolean readLine() {
            int word = tokens.code(at);
            switch (word) {
                case PLANK:
                    return readPlank();
                case THING:
                    return readThing();
                case PURSE:
                case GUESTS:
                    return readOfHouse(word);
                case SNOW:
                case STEP:
                case FALL:
                case THIEVES:
                case FEE:
                    return readSetting(word);
                default:
                    return false;
            }
        }

        private boolean readPlank() {
            if (hill.planks >= PLANKS_MOST) {
                return false;
            }
            at++;
            int bears = number(BEARS_LEAST, BEARS_MOST);
            if (bears == NONE) {
                return false;
            }
            int age = 0;
            if (skip(AGE)) {
                age = number(0, AGE_MOST);
            }
            if (age == NONE) {
                return false;
            }
            hill.addPlank(bears, age);
            return true;
        }

        private boolean readThing() {
            if (hill.things >= THINGS_MOST) {
                return false;
            }
            at++;
            int weight = number(1, WEIGHT_MOST);
            if (weight == NONE || !skip(WORTH)) {
                return false;
            }
            int worth = number(0, WORTH_MOST);
            if (worth == NONE || !skip(IN)) {
                return false;
            }
            int home = number(0, hill.houses() - 1);
            if (home == NONE) {
                return false;
            }
            hill.addThing(weight, worth, home);
            return true;
        }

        private boolean readOfHouse(int word) {
            at++;
            int house = number(0, hill.houses() - 1);
            if (house == NONE) {
                return false;
            }
            int n = number(0, word == PURSE ? PURSE_TOLD_MOST : GUESTS_MOST);
            if (n == NONE) {
                return false;
            }
            if (word == PURSE) {
                hill.purse[house] = n;
            } else {
                hill.guests[house] = n;
            }
            return true;
        }

        private boolean readSetting(int word) {
            at++;
            int n = number(word == STEP ? 1 : 0, mostOf(word));
            if (n == NONE) {
                return false;
            }
            switch (word) {
                case SNOW:
                    hill.snow = n;
                    break;
                case STEP:
                    hill.step = n;
                    break;
                case FALL:
                    hill.fall = n;
                    break;
                case THIEVES:
                    hill.thieves = n;
                    break;
                default:
                    hill.fee = n;
                    break;
            }
            return true;
        }

        private static int mostOf(int word) {
            switch (word) {
                case SNOW:
                    return SNOW_MOST;
                case STEP:
                    return STEP_MOST;
                case FEE:
                    return FEE_MOST;
                default:
                    return CHANCE_MOST;
            }
        }
    }

    /** Reads a text of THE LAW into a law that is thrown away if the text is wrong. */
    private static final class LawReader extends TextReader {
        private final Law law;

        LawReader(Tokens tokens, Law law) {
            super(tokens, LAW_LINES_MOST);
            this.law = law;
        }

        boolean readLine() {
            int kind = tokens.code(at);
            if (kind != RENT && kind != LURE && kind != AGE) {
                return false;
            }
            at++;
            int amount = number(0, AMOUNT_MOST);
            if (amount == NONE) {
                return false;
            }
            if (skip(IF) && !readAny(0)) {
                return false;
            }
            law.addLine(kind, amount);
            return true;
        }

        /** C: ALL { or ALL }. */
        private boolean readAny(int deep) {
            if (!readAll(deep)) {
                return false;
            }
            for (int more = 0; more < TAPE_MOST && skip(OR); more++) {
                if (!readAll(deep)) {
                    return false;
                }
                law.put(-OR);
            }
            return true;
        }

        private boolean readAll(int deep) {
            if (!readAtom(deep)) {
                return false;
            }
            for (int more = 0; more < TAPE_MOST && skip(AND); more++) {
                if (!readAtom(deep)) {
                    return false;
                }
                law.put(-AND);
            }
            return true;
        }

        private boolean readAtom(int deep) {
            int sign = tokens.code(at);
            if (sign == NOT || sign == '(') {
                return deep < DEEP_MOST && readDeeper(sign, deep + 1);
            }
            if (sign == UP || sign == LEVEL) {
                at++;
                law.put(-sign);
                return true;
            }
            if (!readSum()) {
                return false;
            }
            int than = tokens.code(at);
            if (than != '<' && than != '>') {
                return false;
            }
            at++;
            if (!readSum()) {
                return false;
            }
            law.put(-than);
            return true;
        }

        private boolean readDeeper(int sign, int deep) {
            at++;
            if (sign == '(') {
                return readAny(deep) && skip(')');
            }
            if (!readAtom(deep)) {
                return false;
            }
            law.put(-NOT);
            return true;
        }

        private boolean readSum() {
            for (int parts = 0; parts < TAPE_MOST; parts++) {
                int sign = tokens.code(at);
                boolean isFact = sign == GUESTS || sign >= HOUSE && sign <= WEEK;
                if (!isFact && sign != NUMBER) {
                    return false;
                }
                law.put(isFact ? -sign : tokens.value(at));
                at++;
                if (parts > 0) {
                    law.put(-'+');
                }
                if (!skip('+')) {
                    return true;
                }
            }
            return false;
        }
    }

    /** THE LAW: of each LINE what it is for, how much, and its condition with each sign behind what it joins. */
    private static final class Law {
        private static final int STACK = 64;

        int lines;
        private final int[] kinds;
        private final int[] amounts;
        private final int[] ends;
        // What is below 0 is a token's code, negated; the others are numbers.
        private final int[] signs;
        private int size;
        private final int[] stack;

        Law() {
            lines = NONE;
            kinds = new int[LAW_LINES_MOST];
            amounts = new int[LAW_LINES_MOST];
            ends = new int[LAW_LINES_MOST];
            signs = new int[TAPE_MOST];
            size = 0;
            stack = new int[STACK];
        }

        void clear() {
            lines = 0;
            size = 0;
        }

        void put(int sign) {
            if (size < signs.length) {
                signs[size] = sign;
                size++;
            }
        }

        void addLine(int kind, int amount) {
            if (lines >= 0 && lines < LAW_LINES_MOST) {
                kinds[lines] = kind;
                amounts[lines] = amount;
                ends[lines] = size;
                lines++;
            }
        }

        void copyFrom(Law other) {
            lines = other.lines;
            size = other.size;
            System.arraycopy(other.kinds, 0, kinds, 0, LAW_LINES_MOST);
            System.arraycopy(other.amounts, 0, amounts, 0, LAW_LINES_MOST);
            System.arraycopy(other.ends, 0, ends, 0, LAW_LINES_MOST);
            System.arraycopy(other.signs, 0, signs, 0, TAPE_MOST);
        }

        /** The sum of all LINES of a kind that hold of a HOUSE. */
        int sumOf(int kind, Hill hill, int house) {
            int sum = 0;
            int from = 0;
            for (int line = 0; line < lines; line++) {
                int to = ends[line];
                if (kinds[line] == kind && holds(from, to, hill, house)) {
                    sum += amounts[line];
                }
                from = to;
            }
            return sum;
        }

        private boolean holds(int from, int to, Hill hill, int house) {
            int top = 0;
            for (int at = from; at < to; at++) {
                int sign = signs[at];
                if (sign == -NOT && top > 0) {
                    stack[top - 1] = 1 - stack[top - 1];
                } else if (joins(sign) && top > 1) {
                    top--;
                    stack[top - 1] = joined(sign, stack[top - 1], stack[top]);
                } else if (top < STACK) {
                    stack[top] = sign >= 0 ? sign : hill.fact(-sign, house);
                    top++;
                }
            }
            return top == 0 || stack[0] != 0;
        }

        private static boolean joins(int sign) {
            return sign == -'+' || sign == -'<' || sign == -'>' || sign == -AND || sign == -OR;
        }

        private static int joined(int sign, int left, int right) {
            switch (-sign) {
                case '+':
                    return left + right;
                case '<':
                    return left < right ? 1 : 0;
                case '>':
                    return left > right ? 1 : 0;
                case AND:
                    return left & right;
                default:
                    return left | right;
            }
        }
    }

    /** All that ACTS and WEEKS change but for THE LOG, with how it stands by weight. */
    private static final class Hill {
        int planks;
        int things;
        int snow;
        int step;
        int fall;
        int thieves;
        int fee;
        int week;
        int seed;
        final int[] bears;
        final int[] age;
        final boolean[] propped;
        final boolean[] broken;
        final int[] purse;
        final int[] guests;
        final int[] weight;
        final int[] worth;
        final int[] home;
        // Both follow from the rest: weigh() makes them anew behind each change.
        final int[] load;
        final int[] height;

        Hill() {
            step = 10;
            fee = 3;
            seed = 1;
            bears = new int[PLANKS_MOST];
            age = new int[PLANKS_MOST];
            propped = new boolean[PLANKS_MOST];
            broken = new boolean[PLANKS_MOST];
            purse = new int[HOUSES_MOST];
            guests = new int[HOUSES_MOST];
            weight = new int[THINGS_MOST];
            worth = new int[THINGS_MOST];
            home = new int[THINGS_MOST];
            load = new int[HOUSES_MOST];
            height = new int[HOUSES_MOST];
        }

        void copyFrom(Hill other) {
            planks = other.planks;
            things = other.things;
            snow = other.snow;
            step = other.step;
            fall = other.fall;
            thieves = other.thieves;
            fee = other.fee;
            week = other.week;
            seed = other.seed;
            for (int plank = 0; plank < PLANKS_MOST; plank++) {
                propped[plank] = other.propped[plank];
                broken[plank] = other.broken[plank];
            }
            System.arraycopy(other.bears, 0, bears, 0, PLANKS_MOST);
            System.arraycopy(other.age, 0, age, 0, PLANKS_MOST);
            System.arraycopy(other.purse, 0, purse, 0, HOUSES_MOST);
            System.arraycopy(other.guests, 0, guests, 0, HOUSES_MOST);
            System.arraycopy(other.weight, 0, weight, 0, THINGS_MOST);
            System.arraycopy(other.worth, 0, worth, 0, THINGS_MOST);
            System.arraycopy(other.home, 0, home, 0, THINGS_MOST);
            System.arraycopy(other.load, 0, load, 0, HOUSES_MOST);
            System.arraycopy(other.height, 0, height, 0, HOUSES_MOST);
        }

        int houses() {
            return 2 * planks;
        }

        void addPlank(int bearing, int old) {
            if (planks >= PLANKS_MOST) {
                return;
            }
            bears[planks] = bearing;
            age[planks] = old;
            propped[planks] = false;
            broken[planks] = false;
            for (int house = 2 * planks; house < 2 * planks + 2; house++) {
                purse[house] = 100;
                guests[house] = 0;
            }
            planks++;
        }

        void addThing(int heavy, int dear, int house) {
            if (things >= THINGS_MOST) {
                return;
            }
            weight[things] = heavy;
            worth[things] = dear;
            home[things] = house;
            things++;
        }

        void weigh() {
            for (int house = 0; house < houses(); house++) {
                load[house] = snow + GUEST_WEIGHT * guests[house];
            }
            for (int thing = 0; thing < things; thing++) {
                int house = home[thing];
                if (house >= 0 && house < houses()) {
                    load[house] += weight[thing];
                }
            }
            for (int plank = 0; plank < planks; plank++) {
                int tilt = tiltOf(plank);
                height[2 * plank] = broken[plank] ? 0 : MIDDLE + tilt;
                height[2 * plank + 1] = broken[plank] ? 0 : MIDDLE - tilt;
            }
        }

        int tiltOf(int plank) {
            return propped[plank] ? 0 : leaning(load[2 * plank], load[2 * plank + 1]);
        }

        /** TILT under two LOADS of a PLANK that is not PROPPED. */
        int leaning(int first, int second) {
            int steps = step > 0 ? (second - first) / step : 0;
            return Math.max(-MIDDLE, Math.min(MIDDLE, steps));
        }

        /** A BROKEN PLANK has HEIGHT 0, so the middle HEIGHT alone tells it. */
        boolean isLevel(int plank) {
            return height[2 * plank] == MIDDLE;
        }

        int bearsMore(int plank) {
            return bears[plank] - age[plank] - load[2 * plank] - load[2 * plank + 1];
        }

        /** What a word of THE LAW tells of a HOUSE. */
        int fact(int word, int house) {
            switch (word) {
                case UP:
                    return height[house] > MIDDLE ? 1 : 0;
                case LEVEL:
                    return height[house] == MIDDLE ? 1 : 0;
                case HOUSE:
                    return house;
                case HEIGHT:
                    return height[house];
                case LOAD:
                    return load[house];
                case GUESTS:
                    return guests[house];
                case AGED:
                    return age[house / 2];
                default:
                    return week;
            }
        }

        int paysBy(Law law, int house) {
            return fee * height[house] + law.sumOf(RENT, this, house);
        }

        int luresBy(Law law, int house) {
            return law.sumOf(LURE, this, house) + worthIn(house);
        }

        int agesBy(Law law, int plank) {
            return 1 + law.sumOf(AGE, this, 2 * plank);
        }

        int thingsIn(int house) {
            int set = 0;
            for (int thing = 0; thing < things; thing++) {
                if (home[thing] == house) {
                    set |= 1 << thing;
                }
            }
            return set;
        }

        int goneThings() {
            return thingsIn(NONE);
        }

        int worthIn(int house) {
            int sum = 0;
            for (int thing = 0; thing < things; thing++) {
                if (home[thing] == house) {
                    sum += worth[thing];
                }
            }
            return sum;
        }

        int weightOf(int set) {
            int sum = 0;
            for (int thing = 0; thing < things; thing++) {
                if ((set >> thing & 1) != 0) {
                    sum += weight[thing];
                }
            }
            return sum;
        }

        int brokenPlanks() {
            int set = 0;
            for (int plank = 0; plank < planks; plank++) {
                if (broken[plank]) {
                    set |= 1 << plank;
                }
            }
            return set;
        }

        int purseSum() {
            int sum = 0;
            for (int house = 0; house < houses(); house++) {
                sum += purse[house];
            }
            return sum;
        }

        boolean hasEmptyPurse() {
            for (int house = 0; house < houses(); house++) {
                if (purse[house] == 0) {
                    return true;
                }
            }
            return false;
        }

        int shareOf(int house) {
            int all = 0;
            for (int each = 0; each < houses(); each++) {
                all += Math.max(0, MIDDLE - height[each]);
            }
            return all > 0 ? 100 * Math.max(0, MIDDLE - height[house]) / all : 0;
        }

        int corkOf(int house) {
            int plank = house / 2;
            if (broken[plank]) {
                return 0;
            }
            int other = house % 2 == 0 ? house + 1 : house - 1;
            return propped[plank] ? MIDDLE : MIDDLE + leaning(snow, load[other]);
        }

        int draw() {
            seed = 1103515245 * seed + 12345;
            return seed >>> 16 & 32767;
        }

        /** A WEEK more: how many THINGS are stolen in it. */
        int passWeek(Law law, Diary diary) {
            if (draw() % 100 < fall) {
                snow = Math.min(SNOW_MOST, snow + draw() % 10);
            } else {
                snow /= 2;
            }
            weigh();
            for (int plank = 0; plank < planks; plank++) {
                payRents(law, plank);
            }
            int house = draw() % 100 < thieves ? luredTo(law, 0) : NONE;
            int stolen = dearestIn(house);
            if (stolen != NONE) {
                diary.addRow(week, stolen, house, NONE);
                home[stolen] = NONE;
                weigh();
            }
            for (int plank = 0; plank < planks; plank++) {
                growOld(law, plank);
            }
            turnWeek();
            return stolen == NONE ? 0 : 1;
        }

        private void payRents(Law law, int plank) {
            if (broken[plank]) {
                return;
            }
            for (int house = 2 * plank; house < 2 * plank + 2; house++) {
                purse[house] = Math.max(0, purse[house] - paysBy(law, house));
            }
        }

        void growOld(Law law, int plank) {
            if (broken[plank]) {
                return;
            }
            age[plank] = Math.min(AGE_MOST, age[plank] + agesBy(law, plank));
            broken[plank] = bearsMore(plank) < 0;
        }

        /** What a WEEK AHEAD does to a PLANK and its HOUSES. */
        void payAndGrowOld(Law law, int plank) {
            payRents(law, plank);
            growOld(law, plank);
        }

        void turnWeek() {
            week = Math.min(WEEK_MOST, week + 1);
            weigh();
        }

        /** The HOUSE, not of the guarded ones, that a thief comes to; NONE. */
        int luredTo(Law law, int guarded) {
            int lured = NONE;
            int most = NONE;
            for (int house = 0; house < houses(); house++) {
                if ((guarded >> house & 1) != 0) {
                    continue;
                }
                int lures = luresBy(law, house);
                if (lures > most) {
                    lured = house;
                    most = lures;
                }
            }
            return lured;
        }

        /** The THING of the greatest WORTH in a HOUSE; NONE, also of no HOUSE. */
        int dearestIn(int house) {
            int dearest = NONE;
            int most = NONE;
            for (int thing = 0; thing < things; thing++) {
                if (house != NONE && home[thing] == house && worth[thing] > most) {
                    dearest = thing;
                    most = worth[thing];
                }
            }
            return dearest;
        }

        /** A thief takes a THING, if there is one: which one; NONE. */
        int stealOne(Law law, int guarded) {
            int stolen = dearestIn(luredTo(law, guarded));
            if (stolen != NONE) {
                home[stolen] = NONE;
                weigh();
            }
            return stolen;
        }
    }

    /** THE LOG, the latest row last. */
    private static final class Diary {
        int rows;
        // WEEK, THING, from, to, 0 or 1 (stolen) of each row.
        private final int[] cells;

        Diary() {
            rows = 0;
            cells = new int[ROWS_MOST * ROW_SIZE];
        }

        void copyFrom(Diary other) {
            rows = other.rows;
            System.arraycopy(other.cells, 0, cells, 0, ROWS_MOST * ROW_SIZE);
        }

        void addRow(int week, int thing, int from, int to) {
            if (rows >= ROWS_MOST) {
                System.arraycopy(cells, ROW_SIZE, cells, 0, (ROWS_MOST - 1) * ROW_SIZE);
                rows = ROWS_MOST - 1;
            }
            int at = rows * ROW_SIZE;
            cells[at] = week;
            cells[at + 1] = thing;
            cells[at + 2] = from;
            cells[at + 3] = to;
            cells[at + 4] = to == NONE ? 1 : 0;
            rows++;
        }

        int cell(int ago, int what) {
            if (ago < 0 || ago >= rows || what < 0 || what >= ROW_SIZE) {
                return NO_ROW;
            }
            return cells[(rows - 1 - ago) * ROW_SIZE + what];
        }

        int rowsOf(int thing) {
            int many = 0;
            for (int ago = 0; ago < rows; ago++) {
                if (cell(ago, 1) == thing) {
                    many++;
                }
            }
            return many;
        }

        int latestWeekOf(int thing) {
            for (int ago = 0; ago < rows; ago++) {
                if (cell(ago, 1) == thing) {
                    return cell(ago, 0);
                }
            }
            return NONE;
        }
    }

    /** How all was ahead of each of the latest ACTS, in a ring. */
    private static final class Past {
        int size;
        private int first;
        private final Hill[] hills;
        private final Diary[] diaries;

        Past() {
            size = 0;
            first = 0;
            hills = new Hill[PAST_MOST];
            diaries = new Diary[PAST_MOST];
            for (int i = 0; i < PAST_MOST; i++) {
                hills[i] = new Hill();
                diaries[i] = new Diary();
            }
        }

        void forget() {
            size = 0;
        }

        void remember(Hill hill, Diary diary) {
            if (size == PAST_MOST) {
                first = (first + 1) % PAST_MOST;
                size--;
            }
            int at = (first + size) % PAST_MOST;
            hills[at].copyFrom(hill);
            diaries[at].copyFrom(diary);
            size++;
        }

        boolean restore(Hill hill, Diary diary) {
            if (size == 0) {
                return false;
            }
            size--;
            int at = (first + size) % PAST_MOST;
            hill.copyFrom(hills[at]);
            diary.copyFrom(diaries[at]);
            return true;
        }
    }

    /** What is carried between both HOUSES of one PLANK, or taken in there. */
    private static final class Carrying {
        private Carrying() {
        }

        /** BEST. */
        static int levelling(Hill hill, int plank) {
            int differ = hill.load[2 * plank + 1] - hill.load[2 * plank];
            int least = Math.abs(differ);
            int best = NONE;
            for (int thing = 0; thing < hill.things; thing++) {
                int then = Math.abs(differ + shiftOf(hill, plank, 1 << thing));
                if (then < least) {
                    best = thing;
                    least = then;
                }
            }
            return best;
        }

        /** By how much the second HOUSE's LOAD less the first one's grows, if a set changes HOUSES. */
        private static int shiftOf(Hill hill, int plank, int set) {
            int shift = 0;
            for (int thing = 0; thing < hill.things; thing++) {
                if ((set >> thing & 1) == 0) {
                    continue;
                }
                if (hill.home[thing] == 2 * plank) {
                    shift += 2 * hill.weight[thing];
                } else if (hill.home[thing] == 2 * plank + 1) {
                    shift -= 2 * hill.weight[thing];
                }
            }
            return shift;
        }

        /** STAND, or HEAVE (by weight), as a set. */
        static int leastSet(Hill hill, int plank, int tilt, boolean byWeight) {
            int there = hill.thingsIn(2 * plank) | hill.thingsIn(2 * plank + 1);
            int differ = hill.load[2 * plank + 1] - hill.load[2 * plank];
            int best = NONE;
            int least = 0;
            for (int set = 0; set <= there; set++) {
                boolean fits = (set & there) == set && hill.leaning(0, differ + shiftOf(hill, plank, set)) == tilt;
                if (!fits) {
                    continue;
                }
                int costs = byWeight ? hill.weightOf(set) : Integer.bitCount(set);
                if (best == NONE || costs < least) {
                    best = set;
                    least = costs;
                }
            }
            return best;
        }

        /** BALLAST. */
        static int restingChoices(Hill hill, int plank) {
            int set = 0;
            for (int first = 0; first < BALLAST_CHOICES; first++) {
                for (int second = 0; second < BALLAST_CHOICES; second++) {
                    if (isResting(hill, plank, first, second)) {
                        set |= 1 << BALLAST_CHOICES * first + second;
                    }
                }
            }
            return set;
        }

        private static boolean isResting(Hill hill, int plank, int first, int second) {
            int firstHas = tiltWith(hill, plank, first, second) - first;
            int secondHas = -tiltWith(hill, plank, first, second) - second;
            for (int other = 0; other < BALLAST_CHOICES; other++) {
                boolean firstMoves = tiltWith(hill, plank, other, second) - other > firstHas;
                boolean secondMoves = -tiltWith(hill, plank, first, other) - other > secondHas;
                if (firstMoves || secondMoves) {
                    return false;
                }
            }
            return true;
        }

        private static int tiltWith(Hill hill, int plank, int first, int second) {
            return hill.leaning(hill.load[2 * plank] + first * hill.step, hill.load[2 * plank + 1] + second * hill.step);
        }
    }

    /** MATCH: HOUSES two by two. */
    private static final class Marriage {
        private Marriage() {
        }

        /** How much LOADS of each two of a set differ all together, at least. */
        static int howMuch(int[] load, int set) {
            return leastSum(load, set, 0);
        }

        private static int leastSum(int[] load, int set, int deep) {
            int one = lowest(set);
            if (one == NONE || deep > PAIRED_MOST) {
                return 0;
            }
            int rest = set & ~(1 << one);
            int least = NONE;
            for (int other = one + 1; other < HOUSES_MOST; other++) {
                if ((rest >> other & 1) != 0) {
                    int others = leastSum(load, rest & ~(1 << other), deep + 1);
                    int sum = Math.abs(load[one] - load[other]) + others;
                    least = least == NONE ? sum : Math.min(least, sum);
                }
            }
            return least;
        }

        private static int lowest(int set) {
            for (int house = 0; house < HOUSES_MOST; house++) {
                if ((set >> house & 1) != 0) {
                    return house;
                }
            }
            return NONE;
        }

        /** With whom one is in the first of the least ways; NONE, if it is not of the set. */
        static int partnerOf(int[] load, int set, int house) {
            int rest = set;
            for (int pair = 0; pair < PAIRED_MOST && rest != 0; pair++) {
                int one = lowest(rest);
                int other = firstPartner(load, rest, one);
                if (other == NONE) {
                    return NONE;
                }
                if (one == house) {
                    return other;
                }
                if (other == house) {
                    return one;
                }
                rest &= ~(1 << one) & ~(1 << other);
            }
            return NONE;
        }

        private static int firstPartner(int[] load, int set, int one) {
            int least = leastSum(load, set, 0);
            for (int other = one + 1; other < HOUSES_MOST; other++) {
                if ((set >> other & 1) == 0) {
                    continue;
                }
                int others = leastSum(load, set & ~(1 << one) & ~(1 << other), 0);
                if (Math.abs(load[one] - load[other]) + others == least) {
                    return other;
                }
            }
            return NONE;
        }
    }

    /** HAS and ASK: which of the THINGS that are gone may have been in a first HOUSE. */
    private static final class Guess {
        int fits;
        int inAll;
        private final int[] weights;
        private final int[] parts;

        Guess() {
            fits = 0;
            inAll = 0;
            weights = new int[SETS_MOST];
            parts = new int[HEIGHT_MOST + 1];
        }

        /** Whether the bytes are pairs of GUESTS more and a HEIGHT. */
        static boolean isTold(byte[] told, int length) {
            if (length % 2 != 0 || length > TOLD_BYTES_MOST) {
                return false;
            }
            for (int at = 0; at + 1 < length; at += 2) {
                boolean guestsFit = told[at] >= 0 && told[at] <= TOLD_GUESTS_MOST;
                boolean heightFits = told[at + 1] >= 0 && told[at + 1] <= HEIGHT_MOST;
                if (!guestsFit || !heightFits) {
                    return false;
                }
            }
            return true;
        }

        void search(Hill hill, int plank, byte[] told, int length) {
            int gone = hill.goneThings();
            fits = 0;
            inAll = gone;
            for (int set = 0; set <= gone; set++) {
                if ((set & gone) != set) {
                    continue;
                }
                int weight = hill.weightOf(set);
                if (agrees(hill, plank, weight, told, length) && fits < SETS_MOST) {
                    weights[fits] = weight;
                    fits++;
                    inAll &= set;
                }
            }
            if (fits == 0) {
                inAll = 0;
            }
        }

        private static boolean agrees(Hill hill, int plank, int weight, byte[] told, int length) {
            for (int at = 0; at + 1 < length; at += 2) {
                if (heightWith(hill, plank, weight, told[at]) != told[at + 1]) {
                    return false;
                }
            }
            return true;
        }

        /** HEIGHT of the first HOUSE with so much weight and so many GUESTS more in it. */
        private static int heightWith(Hill hill, int plank, int weight, int guests) {
            int first = hill.load[2 * plank] + weight + GUEST_WEIGHT * guests;
            return MIDDLE + hill.leaning(first, hill.load[2 * plank + 1]);
        }

        int bestAsk(Hill hill, int plank) {
            int best = NONE;
            int least = SETS_MOST + 1;
            for (int guests = 0; guests <= TOLD_GUESTS_MOST; guests++) {
                int greatest = greatestPart(hill, plank, guests);
                if (greatest < least) {
                    best = guests;
                    least = greatest;
                }
            }
            return best;
        }

        private int greatestPart(Hill hill, int plank, int guests) {
            for (int height = 0; height <= HEIGHT_MOST; height++) {
                parts[height] = 0;
            }
            int greatest = 0;
            for (int fit = 0; fit < fits; fit++) {
                int height = heightWith(hill, plank, weights[fit], guests);
                parts[height]++;
                greatest = Math.max(greatest, parts[height]);
            }
            return greatest;
        }
    }
}
