/** Each of the 47 promises: the boundary cases that its own words name, by these words. */
public final class PromisesEdgesTest extends Checks {
    private static final int[] NO_PLANK = {-1, 2, 5, Integer.MAX_VALUE, Integer.MIN_VALUE};
    private static final int[] NO_HOUSE = {-1, 4, 10, Integer.MAX_VALUE, Integer.MIN_VALUE};
    private static final int[] NO_THING = {-1, 3, 10, Integer.MAX_VALUE, Integer.MIN_VALUE};

    public static void main(String[] args) {
        newObject();
        feedAndEnd();
        hillTexts();
        lawTexts();
        faults();
        planks();
        houses();
        things();
        carry();
        guests();
        propAndMend();
        give();
        sweep();
        weeks();
        viewWellTwins();
        bestStandHeave();
        breaksMoreLast();
        match();
        hasAndAsk();
        ballast();
        thieves();
        purses();
        heaviestAlike();
        ahead();
        trialAndSpan();
        ledAndLog();
        seed();
        undoAndImage();
        counts();
        allPromised();
        finish("PromisesEdgesTest");
    }

    /** Two planks, three things. */
    private static SeeSawHill small() {
        return of("plank 99;plank 99;thing 30 worth 9 in 0;thing 10 worth 5 in 1;thing 20 worth 7 in 3");
    }

    // ---- Promises 1 to 6

    private static void newObject() {
        promised(1, "A hill without PLANKS.");
        SeeSawHill x = new SeeSawHill();
        due("no planks", x.count(0), 0);
        due("all of it", all(x), "0 0 0 -1 0 0 10 0 0 3 0 0 0 0 0 1");
        due("an empty tape", onTape(x), 0);
        due("no fault", x.fault(), NONE);
        for (int n = -1; n <= 1; n++) {
            int plank = n;
            outOfBounds("plank " + n, () -> x.plank(plank, 0));
            outOfBounds("house " + n, () -> x.house(plank, 0));
            outOfBounds("thing " + n, () -> x.thing(plank, 0));
            outOfBounds("prop " + n, () -> x.prop(plank, true));
            outOfBounds("has " + n, () -> x.has(plank, true));
        }
        SeeSawHill y = new SeeSawHill();
        hill(y, "plank 99;fee 9");
        due("another object is another hill", x.count(0), 0);
        due("NONE", SeeSawHill.NONE, -1);
    }

    private static void feedAndEnd() {
        promised(2, "Twenty bytes come behind the TAPE, of each number the highest first: how many it has;");
        SeeSawHill x = new SeeSawHill();
        due("20", x.feed(0x66656520, 0x30303120, 0x20202020, 0x20202020, 0x2020203b), 20);
        due("40 behind them", x.feed(0x66616c6c, 0x20373720, 0x20202020, 0x20202020, 0x20202020), 40);
        due("in their order", x.hill(), 1);
        due("fee", x.count(9), 1);
        due("fall", x.count(7), 77);
        for (int fifth = 0; fifth < 5; fifth++) {
            int[] n = {0x20202020, 0x20202020, 0x20202020, 0x20202020, 0x20202020};
            n[fifth] = 0x2020ff20;
            x.feed(n[0], n[1], n[2], n[3], n[4]);
            illegal("a byte of 255", () -> x.hill());
            due("where it is", x.fault(), 4 * fifth + 2);
        }
        x.feed(-1, 0, 0, 0, 0);
        illegal("a number below 0", () -> x.hill());
        due("is four bytes", x.fault(), 0);

        promised(2, "NONE, and none come, if it would have more than 400.");
        SeeSawHill y = new SeeSawHill();
        int blanks = 0x20202020;
        for (int i = 1; i <= 19; i++) due("feed " + i, y.feed(blanks, blanks, blanks, blanks, blanks), 20 * i);
        due("of 381", y.end(380), true);
        due("400", y.feed(blanks, blanks, blanks, blanks, blanks), 400);
        due("420", y.feed(0, 0, 0, 0, 0), NONE);
        due("none came", y.end(401), false);
        due("all 400 are there", y.end(400), true);
        due("they are blanks", y.hill(), 1);
        for (int i = 1; i <= 20; i++) y.feed(blanks, blanks, blanks, blanks, blanks);
        y.end(399);
        due("419", y.feed(0, 0, 0, 0, 0), NONE);
        y.end(381);
        due("401", y.feed(0, 0, 0, 0, 0), NONE);
        due("381 as before", y.end(382), false);
        y.end(380);
        due("then 400", y.feed(blanks, blanks, blanks, blanks, blanks), 400);

        promised(3, "The TAPE has its first n bytes alone: true; false, and nothing happens, if it has fewer, or n is below 0.");
        SeeSawHill z = new SeeSawHill();
        due("0 of 0", z.end(0), true);
        due("1 of 0", z.end(1), false);
        due("- 1 of 0", z.end(-1), false);
        z.feed(0x66656520, 0x34352020, 0, 0, 0);
        due("21 of 20", z.end(21), false);
        due("- 1", z.end(-1), false);
        due("the least", z.end(Integer.MIN_VALUE), false);
        due("the greatest", z.end(Integer.MAX_VALUE), false);
        due("nothing happened", onTape(z), 20);
        due("20 of 20", z.end(20), true);
        due("6 of 20", z.end(6), true);
        due("7 of 6", z.end(7), false);
        due("6 of 6", z.end(6), true);
        due("read", z.hill(), 1);
        due("fee 45", z.count(9), 45);
        due("used up", onTape(z), 0);
        z.feed(0x66656520, 0x39202020, 0x20202020, 0x20202020, 0x20202020);
        z.end(0);
        due("an empty text", z.hill(), 2);
        due("fee as before", z.count(9), 45);
        put(z, "fee 123");
        z.end(6);
        due("cut within a number", z.hill(), 3);
        due("fee 12", z.count(9), 12);
        put(z, "plank 10 aged");
        z.end(12);
        illegal("cut within a word", () -> z.hill());
        due("the word that is left is right", z.fault(), 12);
        put(z, "rent 1 if up");
        z.end(8);
        illegal("cut within if", () -> z.law());
        due("the letter that is left is none", z.fault(), 7);
        illegal("a word that 400 bytes cut", () -> hill(z, "fee 1;" + repeat(" ", 391) + "pla"));
        due("begins there", z.fault(), 397);
        due("a number that 400 bytes end", hill(z, repeat(" ", 394) + "fee 98"), 4);
        due("fee 98", z.count(9), 98);
    }

    private static void hillTexts() {
        promised(4, "Uses the TAPE up: a text of THE HILL: how many there are.");
        SeeSawHill x = new SeeSawHill();
        due("one", hill(x, "plank 99"), 1);
        due("used up", onTape(x), 0);
        due("an empty tape is an empty text", x.hill(), 2);
        due("texts", x.count(2), 2);

        promised(4, "IllegalArgumentException: it is wrong; UnsupportedOperationException: there are 12.");
        illegal("wrong", () -> hill(x, "plank 99;"));
        due("used up all the same", onTape(x), 0);
        due("it does not count", hill(x, "plank 98"), 3);
        for (int text = 4; text <= 12; text++) due("text " + text, hill(x, ""), text);
        illegal("a wrong 13th", () -> hill(x, "plank"));
        due("its fault", x.fault(), 5);
        tooMany("a right 13th", () -> hill(x, "plank 97"));
        due("it was read, and has no fault", x.fault(), NONE);
        due("there are 12", x.count(2), 12);
        due("planks", x.count(0), 2);
        due("used up by that, too", onTape(x), 0);
        x.sweep();
        tooMany("another", () -> hill(x, ""));
        due("what is remembered stays", x.count(14), 1);
        due("a law may come", law(x, "rent 1"), 1);
    }

    private static void lawTexts() {
        promised(5, "Uses the TAPE up: THE LAW: how many LINES. IllegalArgumentException: the text is wrong.");
        SeeSawHill x = small();
        due("no line", x.law(), 0);
        due("1", law(x, "rent 1"), 1);
        due("used up", onTape(x), 0);
        due("12", law(x, repeat("rent 1;", 11) + "rent 1"), 12);
        illegal("13", () -> law(x, repeat("rent 1;", 12) + "rent 1"));
        due("used up all the same", onTape(x), 0);
        due("the one before stands", x.count(3), 12);
        due("and holds", x.house(1, 5), 3 * 7 + 12);
        due("then none", x.law(), 0);
        due("it is a law", x.count(3), 0);
    }

    private static void faults() {
        promised(6, "The first wrong byte of the latest text that was read; NONE without one, and ahead of any.");
        SeeSawHill x = new SeeSawHill();
        due("ahead of any", x.fault(), NONE);
        put(x, "oops");
        due("ahead of reading it", x.fault(), NONE);
        illegal("hill", () -> x.hill());
        due("0", x.fault(), 0);
        illegal("law", () -> law(x, "rent 1 if"));
        due("of the latest", x.fault(), 9);
        due("a right text", hill(x, "plank 99"), 1);
        due("NONE without one", x.fault(), NONE);
        illegal("hill again", () -> hill(x, "plank 401"));
        due("6", x.fault(), 6);
        due("a right law", law(x, "rent 1"), 1);
        due("NONE behind it", x.fault(), NONE);
        illegal("law again", () -> law(x, "rent 61"));
        x.weeks(1);
        x.undo();
        x.image();
        x.back();
        illegal("has is no text", () -> has(x, 0, false, 99));
        due("all of that leaves it", x.fault(), 5);
        due("400", fullFault(), 400);
    }

    private static int fullFault() {
        SeeSawHill x = new SeeSawHill();
        illegal("a text of 400 bytes", () -> hill(x, "fee" + repeat(" ", 397)));
        return x.fault();
    }

    // ---- Promises 7 to 9

    private static void planks() {
        promised(7, "Of a PLANK what 0 BEARS, 1 AGE, 2 1 if PROPPED, 3 1 if BROKEN, 4 TILT and 5, 5 1 if LEVEL, 6 what it AGES by. NoSuchElementException: another what.");
        SeeSawHill x = of("plank 77 age 8;plank 99;thing 40 worth 1 in 0;thing 60 worth 1 in 3", "age 4 if house < 2");
        int[] first = {77, 8, 0, 0, 1, 0, 5};
        int[] second = {99, 0, 0, 0, 10, 0, 1};
        for (int what = 0; what < 7; what++) {
            due("plank 0 what " + what, x.plank(0, what), first[what]);
            due("plank 1 what " + what, x.plank(1, what), second[what]);
        }
        x.prop(0, true);
        int[] propped = {77, 8, 1, 0, 5, 1, 5};
        for (int what = 0; what < 7; what++) due("propped what " + what, x.plank(0, what), propped[what]);
        x.guests(0, 9);
        x.weeks(1);
        int[] broken = {77, 13, 1, 1, 5, 0, 5};
        for (int what = 0; what < 7; what++) due("broken what " + what, x.plank(0, what), broken[what]);
        int[] others = {-1, 7, 8, Integer.MAX_VALUE, Integer.MIN_VALUE};
        for (int what : others) noSuch("what " + what, () -> x.plank(1, what));
        for (int plank : NO_PLANK) {
            outOfBounds("plank " + plank, () -> x.plank(plank, 0));
            outOfBounds("plank " + plank + ", another what", () -> x.plank(plank, 7));
        }
    }

    private static void houses() {
        promised(8, "Of a HOUSE what 0 PURSE, 1 GUESTS, 2 LOAD, 3 HEIGHT, 4 THINGS in it, as bits, 5 what it PAYS, 6 what it LURES by, 7 SHARE, 8 CORK. NoSuchElementException: another what.");
        SeeSawHill x = of("plank 99;plank 99;purse 0 50;guests 0 1;thing 20 worth 9 in 0;thing 1 worth 3 in 0;thing 9 worth 1 in 3;snow 2;fee 4", "rent 7 if up;lure 5 if guests > 0");
        int[][] all = {
            {50, 1, 28, 3, 3, 12, 17, 100, 5},
            {100, 0, 2, 7, 0, 35, 0, 0, 7},
            {100, 0, 2, 5, 0, 20, 0, 0, 5},
            {100, 0, 11, 5, 4, 20, 1, 0, 5},
        };
        for (int house = 0; house < 4; house++) {
            for (int what = 0; what < 9; what++) due("house " + house + " what " + what, x.house(house, what), all[house][what]);
        }
        int[] others = {-1, 9, 10, Integer.MAX_VALUE, Integer.MIN_VALUE};
        for (int what : others) noSuch("what " + what, () -> x.house(3, what));
        for (int house : NO_HOUSE) {
            outOfBounds("house " + house, () -> x.house(house, 0));
            outOfBounds("house " + house + ", another what", () -> x.house(house, 9));
        }
    }

    private static void things() {
        promised(9, "Of a THING what 0 WEIGHT, 1 WORTH, 2 its HOUSE (NONE: gone). NoSuchElementException: another what.");
        SeeSawHill x = small();
        int[][] all = {{30, 9, 0}, {10, 5, 1}, {20, 7, 3}};
        for (int thing = 0; thing < 3; thing++) {
            for (int what = 0; what < 3; what++) due("thing " + thing + " what " + what, x.thing(thing, what), all[thing][what]);
        }
        hill(x, "thieves 100");
        x.weeks(3);
        for (int thing = 0; thing < 3; thing++) due("gone " + thing, x.thing(thing, 2), NONE);
        due("weight of what is gone", x.thing(2, 0), 20);
        int[] others = {-1, 3, Integer.MAX_VALUE, Integer.MIN_VALUE};
        for (int what : others) noSuch("what " + what, () -> x.thing(2, what));
        for (int thing : NO_THING) {
            outOfBounds("thing " + thing, () -> x.thing(thing, 0));
            outOfBounds("thing " + thing + ", another what", () -> x.thing(thing, 3));
        }
    }

    // ---- Promises 10 to 16

    private static void carry() {
        promised(10, "Carried: from which HOUSE. IllegalStateException: it is gone.");
        SeeSawHill x = small();
        due("from 0", x.carry(0, 3), 0);
        due("from 3", x.carry(0, 1), 3);
        due("to where it is", x.carry(0, 1), 1);
        due("it stays there", x.thing(0, 2), 1);
        due("each is a row", x.count(13), 3);
        for (int thing : NO_THING) outOfBounds("thing " + thing, () -> x.carry(thing, 0));
        for (int house : NO_HOUSE) outOfBounds("to house " + house, () -> x.carry(0, house));
        hill(x, "thieves 100");
        x.weeks(1);
        due("the dearest is gone", x.thing(0, 2), NONE);
        cannotBe("gone", () -> x.carry(0, 0));
        outOfBounds("gone, to no house", () -> x.carry(0, 4));
        due("the others can be", x.carry(1, 0), 1);
        x.undo();
        x.undo();
        due("no more gone", x.thing(0, 2), 1);
        due("it can be again", x.carry(0, 0), 1);
    }

    private static void guests() {
        promised(11, "GUESTS are told: how many there were. IllegalArgumentException: they are none.");
        SeeSawHill x = small();
        due("0", x.guests(2, 9), 0);
        due("9", x.guests(2, 0), 9);
        due("0 again", x.guests(2, 0), 0);
        int[] others = {-1, 10, Integer.MAX_VALUE, Integer.MIN_VALUE};
        for (int n : others) illegal("guests " + n, () -> x.guests(2, n));
        for (int house : NO_HOUSE) {
            outOfBounds("house " + house, () -> x.guests(house, 1));
            outOfBounds("house " + house + ", none", () -> x.guests(house, 10));
        }
        due("acts", x.count(14), 3);
    }

    private static void propAndMend() {
        promised(12, "PROPPED, or not: whether that changed.");
        SeeSawHill x = small();
        due("not, as it is", x.prop(0, false), false);
        due("propped", x.prop(0, true), true);
        due("propped, as it is", x.prop(0, true), false);
        due("not", x.prop(0, false), true);
        due("the other is not", x.plank(1, 2), 0);
        for (int plank : NO_PLANK) outOfBounds("plank " + plank, () -> x.prop(plank, true));

        promised(13, "Mended: AGE that it had. IllegalStateException: it is not BROKEN.");
        SeeSawHill y = of("plank 50 age 20;plank 400 age 7;thing 40 worth 1 in 0");
        cannotBe("whole", () -> y.mend(0));
        y.weeks(1);
        due("broken", y.count(10), 1);
        y.weeks(5);
        due("age as it broke", y.mend(0), 21);
        due("age", y.plank(0, 1), 0);
        due("whole again", y.count(10), 0);
        due("it stands by its loads", y.house(1, 3), 9);
        cannotBe("mended", () -> y.mend(0));
        cannotBe("never broken", () -> y.mend(1));
        for (int plank : NO_PLANK) outOfBounds("plank " + plank, () -> y.mend(plank));
    }

    private static void give() {
        promised(14, "One gives to another one: PURSE of that one then (9999 at most). IllegalArgumentException: both are one, or n is none (1 to PURSE).");
        SeeSawHill x = small();
        due("1", x.give(0, 1, 1), 101);
        due("all", x.give(0, 3, 99), 199);
        due("nothing left", x.house(0, 0), 0);
        illegal("1 of nothing", () -> x.give(0, 1, 1));
        illegal("0 of nothing", () -> x.give(0, 1, 0));
        illegal("0", () -> x.give(1, 0, 0));
        illegal("- 1", () -> x.give(1, 0, -1));
        illegal("the least", () -> x.give(1, 0, Integer.MIN_VALUE));
        illegal("one too much", () -> x.give(1, 0, 102));
        illegal("the greatest", () -> x.give(1, 0, Integer.MAX_VALUE));
        illegal("both are one", () -> x.give(1, 1, 1));
        illegal("both are one, too much", () -> x.give(1, 1, 102));
        for (int house : NO_HOUSE) {
            outOfBounds("from " + house, () -> x.give(house, 0, 1));
            outOfBounds("to " + house, () -> x.give(1, house, 1));
            outOfBounds("both " + house, () -> x.give(house, house, 1));
            outOfBounds("to " + house + ", none", () -> x.give(1, house, 0));
        }
        due("nothing has changed", x.count(12), 400);
        SeeSawHill y = of("plank 99;purse 0 999");
        for (int i = 0; i < 9; i++) {
            y.give(0, 1, 999);
            hill(y, "purse 0 999");
        }
        due("9091", y.house(1, 0), 9091);
        due("9998", y.give(0, 1, 907), 9998);
        due("9999 at most", y.give(0, 1, 92), 9999);
        due("none is left", y.house(0, 0), 0);
        due("all of 9999 back", y.give(1, 0, 9999), 9999);
    }

    private static void sweep() {
        promised(15, "Swept: SNOW that there was.");
        SeeSawHill x = of("plank 99;snow 99");
        due("99", x.sweep(), 99);
        due("0", x.sweep(), 0);
        due("none on a house", x.house(1, 2), 0);
        due("without planks", of("snow 1").sweep(), 1);
        due("never any", new SeeSawHill().sweep(), 0);
    }

    private static void weeks() {
        promised(16, "So many WEEKS more (1 to 60): how many THINGS are gone by these. IllegalArgumentException: they are none.");
        SeeSawHill x = of("plank 400;thieves 100" + repeat(";thing 1 worth 1 in 0", 5));
        due("1", x.weeks(1), 1);
        due("2", x.weeks(2), 2);
        due("60", x.weeks(60), 2);
        due("week", x.count(4), 63);
        due("none more", x.weeks(60), 0);
        int[] others = {0, -1, 61, Integer.MAX_VALUE, Integer.MIN_VALUE};
        for (int n : others) refused("weeks " + n, x, IllegalArgumentException.class, 0, () -> x.weeks(n));
        due("without planks", new SeeSawHill().weeks(60), 0);
    }

    // ---- Promises 17 to 29

    private static void viewWellTwins() {
        promised(17, "VIEW, as bits.");
        SeeSawHill x = of(repeat("plank 99;", 4) + "plank 99;thing 10 worth 1 in 0;thing 10 worth 1 in 9");
        due("the second and the ninth", x.view(), 2 + 256);
        due("none", new SeeSawHill().view(), 0);
        promised(18, "WELL, as bits.");
        due("the first and the tenth", x.well(), 1 + 512);
        due("none", new SeeSawHill().well(), 0);
        promised(19, "TWINS.");
        due("three that are level", x.twins(), 3);
        due("none", new SeeSawHill().twins(), 0);
    }

    private static void bestStandHeave() {
        SeeSawHill x = small();
        promised(20, "BEST; NONE.");
        // Loads 30 and 10: carrying either thing makes it 40 apart; house 3's alone makes it as far.
        due("none of two", x.best(0), NONE);
        due("none of one", x.best(1), NONE);
        x.carry(1, 0);
        due("30 of 40", x.best(0), 0);
        for (int plank : NO_PLANK) outOfBounds("best " + plank, () -> x.best(plank));

        promised(21, "STAND, as bits; NONE. IllegalArgumentException: the TILT is none.");
        // Loads 40 and 0: - 4; 10 over - 2, 30 over 2, both 4.
        int[] stands = {NONE, 0, NONE, 2, NONE, NONE, NONE, 1, NONE, 3, NONE};
        for (int tilt = -5; tilt <= 5; tilt++) due("stand at " + tilt, x.stand(0, tilt), stands[tilt + 5]);
        int[] none = {-6, 6, Integer.MAX_VALUE, Integer.MIN_VALUE};
        for (int tilt : none) illegal("tilt " + tilt, () -> x.stand(0, tilt));
        for (int plank : NO_PLANK) {
            outOfBounds("stand of " + plank, () -> x.stand(plank, 0));
            outOfBounds("stand of " + plank + " at none", () -> x.stand(plank, 6));
        }

        promised(22, "HEAVE, as bits (much false), or how much; NONE. IllegalArgumentException: the TILT is none.");
        int[] much = {NONE, 0, NONE, 10, NONE, NONE, NONE, 30, NONE, 40, NONE};
        for (int tilt = -5; tilt <= 5; tilt++) {
            due("heave at " + tilt, x.heave(0, tilt, false), stands[tilt + 5]);
            due("how much at " + tilt, x.heave(0, tilt, true), much[tilt + 5]);
        }
        for (int tilt : none) {
            illegal("heave at " + tilt, () -> x.heave(0, tilt, false));
            illegal("how much at " + tilt, () -> x.heave(0, tilt, true));
        }
        for (int plank : NO_PLANK) {
            outOfBounds("heave of " + plank, () -> x.heave(plank, 0, true));
            outOfBounds("heave of " + plank + " at none", () -> x.heave(plank, -6, false));
        }
    }

    private static void breaksMoreLast() {
        promised(23, "BREAKS; NONE.");
        SeeSawHill x = of("plank 60;plank 400;thing 50 worth 1 in 0");
        due("11", x.breaks(0), 11);
        due("never", x.breaks(1), NONE);
        x.weeks(10);
        due("1", x.breaks(0), 1);
        for (int plank : NO_PLANK) outOfBounds("breaks of " + plank, () -> x.breaks(plank));

        promised(24, "MORE (may be below 0; - 10000, if BROKEN).");
        due("0", x.more(0), 0);
        x.guests(1, 1);
        due("- 5", x.more(0), -5);
        x.weeks(1);
        due("broken", x.more(0), -10000);
        due("whole", x.more(1), 400 - 11);
        for (int plank : NO_PLANK) outOfBounds("more of " + plank, () -> x.more(plank));

        promised(25, "LAST; NONE.");
        due("the other", x.last(), 1);
        due("none", new SeeSawHill().last(), NONE);
        SeeSawHill y = of("plank 10;snow 99");
        y.weeks(1);
        due("all broken", y.last(), NONE);
    }

    private static void match() {
        promised(26, "MATCH: how much (house NONE), or with whom one is; NONE (also of one that is not of the set). IndexOutOfBoundsException: there is no such HOUSE.");
        SeeSawHill x = small();
        // Loads 30, 10, 0, 20: (0 1)(2 3) 40, (0 2)(1 3) 40, (0 3)(1 2) 20.
        due("how much", x.match(15, NONE), 20);
        int[] with = {3, 2, 1, 0};
        for (int house = 0; house < 4; house++) due("with whom " + house, x.match(15, house), with[house]);
        due("of two", x.match(12, 2), 3);
        due("not of the set", x.match(12, 0), NONE);
        due("not of an empty one", x.match(0, 0), NONE);
        due("of an odd one", x.match(7, 0), NONE);
        due("not of an odd one", x.match(7, 3), NONE);
        int[] others = {-2, 4, 10, Integer.MAX_VALUE, Integer.MIN_VALUE};
        for (int house : others) {
            outOfBounds("house " + house, () -> x.match(15, house));
            outOfBounds("house " + house + " of an odd set", () -> x.match(7, house));
            outOfBounds("house " + house + " of none", () -> x.match(0, house));
        }
        outOfBounds("a house of an empty hill", () -> new SeeSawHill().match(0, 0));
        due("an empty hill", new SeeSawHill().match(0, NONE), 0);
    }

    private static void hasAndAsk() {
        promised(27, "Uses the TAPE up: HAS (of each two bytes: GUESTS more, HEIGHT; at most 40 bytes): how many sets (sure false), or SURE, as bits.");
        SeeSawHill x = small();
        hill(x, "thieves 100");
        x.weeks(1);
        // 30 is gone; loads 0 and 10.
        due("nothing told", has(x, 0, false), 2);
        due("with it", has(x, 0, false, 0, 3), 1);
        due("sure", has(x, 0, true, 0, 3), 1);
        due("used up", onTape(x), 0);
        int[] forty = new int[40];
        for (int at = 0; at < 40; at += 2) {
            forty[at] = at == 0 ? 0 : 2;
            forty[at + 1] = at == 0 ? 6 : 5;
        }
        due("40 bytes", has(x, 0, false, forty), 1);
        due("used up all 40", onTape(x), 0);
        forty[39] = 4;
        due("the last of them counts", has(x, 0, false, forty), 0);
        forty[39] = 5;
        forty[38] = 20;
        due("so does the last number of guests", has(x, 0, false, forty), 0);

        promised(27, "IllegalArgumentException: the TAPE is not that (none may be told).");
        illegal("1 byte", () -> has(x, 0, false, 0));
        due("used up by it", onTape(x), 0);
        illegal("39 bytes", () -> has(x, 0, false, new int[39]));
        illegal("41 bytes", () -> has(x, 0, true, new int[41]));
        illegal("42 bytes", () -> has(x, 0, false, new int[42]));
        illegal("400 bytes", () -> has(x, 0, false, new int[400]));
        illegal("guests 21", () -> has(x, 0, false, 21, 0));
        illegal("height 11", () -> has(x, 0, false, 0, 11));
        illegal("guests 255", () -> has(x, 0, true, 255, 0));
        illegal("height 255", () -> has(x, 0, true, 0, 255));
        for (int at = 0; at < 40; at++) {
            int[] one = new int[40];
            one[at] = at % 2 == 0 ? 21 : 11;
            illegal("wrong at " + at, () -> has(small(), 0, true, one));
        }
        due("guests 20, height 0", has(x, 0, false, 20, 0), 2);
        due("guests 0, height 10", has(x, 0, false, 0, 10), 0);
        for (int plank : NO_PLANK) outOfBounds("has of " + plank, () -> has(x, plank, false));

        promised(28, "Uses the TAPE up: ASK (the TAPE likewise); NONE. IllegalArgumentException: the TAPE is not that.");
        SeeSawHill y = small();
        due("nothing gone", ask(y, 0), NONE);
        hill(y, "thieves 100");
        y.weeks(1);
        due("two sets", ask(y, 0), 0);
        due("used up", onTape(y), 0);
        due("one set", ask(y, 0, 0, 3), NONE);
        due("used up by NONE", onTape(y), 0);
        due("40 bytes", ask(y, 0, new int[40]), NONE);
        illegal("1 byte", () -> ask(y, 0, 0));
        due("used up by it", onTape(y), 0);
        illegal("41 bytes", () -> ask(y, 0, new int[41]));
        illegal("42 bytes", () -> ask(y, 0, new int[42]));
        illegal("guests 21", () -> ask(y, 0, 21, 0));
        illegal("height 11", () -> ask(y, 0, 0, 11));
        due("guests 20, height 0", ask(y, 0, 20, 0), 0);
        for (int plank : NO_PLANK) outOfBounds("ask of " + plank, () -> ask(y, plank));
    }

    private static void ballast() {
        promised(29, "BALLAST, as bits.");
        SeeSawHill x = small();
        due("of the first", x.ballast(0), 1);
        due("of the second", x.ballast(1), 1);
        for (int plank : NO_PLANK) outOfBounds("ballast of " + plank, () -> x.ballast(plank));
    }

    // ---- Promises 30 to 37

    private static void thieves() {
        SeeSawHill x = small();
        promised(30, "THIEF; NONE.");
        due("0", x.thief(), 0);
        due("no house", new SeeSawHill().thief(), NONE);

        promised(31, "GUARDS, as bits; NONE. IllegalArgumentException: N or W are none.");
        due("0 thieves", x.guards(0, 0), 0);
        due("8 thieves, 99", x.guards(8, 99), 0);
        due("1 thief, 8", x.guards(1, 8), 1);
        due("8 thieves, 4", x.guards(8, 4), 1 + 2 + 8);
        due("8 thieves, 5", x.guards(8, 5), 1 + 8);
        due("none", of("plank 99;plank 99;thing 1 worth 1 in 0;thing 1 worth 1 in 1;thing 1 worth 1 in 2;thing 1 worth 1 in 3").guards(1, 0), NONE);
        int[] thieves = {-1, 9, Integer.MAX_VALUE, Integer.MIN_VALUE};
        for (int n : thieves) illegal("guards of " + n, () -> x.guards(n, 0));
        int[] worths = {-1, 100, Integer.MAX_VALUE, Integer.MIN_VALUE};
        for (int worth : worths) illegal("guards of worth " + worth, () -> x.guards(0, worth));
        illegal("an empty hill, too", () -> new SeeSawHill().guards(9, 0));

        promised(32, "LOOT. IllegalArgumentException: N is none.");
        due("0", x.loot(0), 0);
        due("1", x.loot(1), 9);
        due("10", x.loot(10), 21);
        int[] others = {-1, 11, Integer.MAX_VALUE, Integer.MIN_VALUE};
        for (int n : others) illegal("loot of " + n, () -> x.loot(n));
    }

    private static void purses() {
        SeeSawHill x = small();
        promised(33, "RENT. IllegalArgumentException: N is none.");
        // Heights 3 7 7 3: 9, 21, 21, 9 a week.
        due("0", x.rent(1, 0), 0);
        due("4", x.rent(1, 4), 84);
        due("5", x.rent(1, 5), 100);
        due("100", x.rent(1, 100), 100);
        int[] others = {-1, 101, Integer.MAX_VALUE, Integer.MIN_VALUE};
        for (int n : others) illegal("rent of " + n, () -> x.rent(1, n));
        for (int house : NO_HOUSE) {
            outOfBounds("rent of house " + house, () -> x.rent(house, 1));
            outOfBounds("rent of house " + house + ", none", () -> x.rent(house, 101));
        }

        promised(34, "POOR; NONE.");
        due("5", x.poor(), 5);
        due("none", new SeeSawHill().poor(), NONE);
        due("never", of("plank 99;fee 0").poor(), NONE);

        promised(35, "RICH; NONE.");
        due("0", x.rich(), 0);
        due("none", new SeeSawHill().rich(), NONE);
    }

    private static void heaviestAlike() {
        SeeSawHill x = small();
        promised(36, "HEAVIEST; NONE.");
        due("0", x.heaviest(), 0);
        due("none", new SeeSawHill().heaviest(), NONE);
        hill(x, "thieves 100");
        x.weeks(3);
        due("all gone", x.heaviest(), NONE);

        promised(37, "ALIKE.");
        due("all four", x.alike(), 6);
        due("none", new SeeSawHill().alike(), 0);
    }

    // ---- Promises 38 to 47

    private static void ahead() {
        promised(38, "AHEAD of a HOUSE: HEIGHT (purse false), or PURSE. IllegalArgumentException: N is none.");
        SeeSawHill x = small();
        due("height now", x.ahead(1, 0, false), 7);
        due("purse now", x.ahead(1, 0, true), 100);
        due("purse then", x.ahead(1, 4, true), 16);
        due("purse at the end", x.ahead(1, 100, true), 0);
        // Bears 99 with 40: broken in week 60.
        due("height in 59", x.ahead(1, 59, false), 7);
        due("height in 60", x.ahead(1, 60, false), 0);
        due("height in 100", x.ahead(1, 100, false), 0);
        SeeSawHill y = of("plank 40;plank 50;plank 60;fee 1;snow 18;purse 2 200;purse 5 300");
        // Broken in weeks 5, 15 and 25.
        due("of the first plank", y.ahead(0, 5, false), 0);
        due("of the second one, whole", y.ahead(2, 14, false), 5);
        due("of the second one", y.ahead(2, 15, false), 0);
        due("its purse", y.ahead(2, 100, true), 200 - 75);
        due("of the third one, whole", y.ahead(5, 24, false), 5);
        due("of the third one", y.ahead(5, 25, false), 0);
        due("its purse, too", y.ahead(5, 100, true), 300 - 125);
        int[] others = {-1, 101, Integer.MAX_VALUE, Integer.MIN_VALUE};
        for (int n : others) {
            illegal("ahead " + n, () -> x.ahead(1, n, false));
            illegal("purse ahead " + n, () -> x.ahead(1, n, true));
        }
        for (int house : NO_HOUSE) {
            outOfBounds("house " + house, () -> x.ahead(house, 1, true));
            outOfBounds("house " + house + ", none", () -> x.ahead(house, 101, false));
        }
    }

    private static void trialAndSpan() {
        SeeSawHill x = of("plank 99;plank 20;thing 30 worth 9 in 0;thing 15 worth 5 in 2;thieves 100", "lure 60 if house < 2");
        int[] others = {-1, 61, Integer.MAX_VALUE, Integer.MIN_VALUE};
        promised(39, "TRIAL: how many THINGS are gone (broken false), or PLANKS BROKEN, as bits. IllegalArgumentException: N is none.");
        due("0", x.trial(0, false), 0);
        due("0, broken", x.trial(0, true), 0);
        due("6", x.trial(6, false), 1);
        due("6, broken", x.trial(6, true), 2);
        due("5, broken", x.trial(5, true), 0);
        due("60", x.trial(60, false), 1);
        due("60, broken", x.trial(60, true), 2);
        for (int n : others) {
            illegal("trial of " + n, () -> x.trial(n, false));
            illegal("trial of " + n + ", broken", () -> x.trial(n, true));
        }

        promised(40, "SPAN: the fewest (most false), or the most. IllegalArgumentException: N is none.");
        due("0", x.span(0, false), 0);
        due("0, most", x.span(0, true), 0);
        due("60", x.span(60, false), 1);
        due("60, most", x.span(60, true), 1);
        for (int n : others) {
            illegal("span of " + n, () -> x.span(n, false));
            illegal("span of " + n + ", most", () -> x.span(n, true));
        }
        due("an empty hill", new SeeSawHill().span(60, true), 0);
    }

    private static void ledAndLog() {
        promised(41, "LED: how many rows (week false), or the WEEK; NONE.");
        SeeSawHill x = small();
        due("no rows", x.led(2, false), 0);
        due("no week", x.led(2, true), NONE);
        x.carry(2, 0);
        due("one row", x.led(2, false), 1);
        due("week 0", x.led(2, true), 0);
        for (int thing : NO_THING) {
            outOfBounds("rows of " + thing, () -> x.led(thing, false));
            outOfBounds("week of " + thing, () -> x.led(thing, true));
        }

        promised(42, "THE LOG so many ago (0 the latest) what 0 WEEK, 1 the THING, 2 from which HOUSE, 3 to which one (NONE), 4 0 or 1; - 2 without. NoSuchElementException: another what.");
        hill(x, "thieves 100");
        x.weeks(3);
        x.undo();
        x.weeks(1);
        // House 0 lured by 16: its dearest, thing 0, is gone.
        int[] stolen = {0, 0, 0, NONE, 1};
        int[] carried = {0, 2, 3, 0, 0};
        for (int what = 0; what < 5; what++) {
            due("the latest " + what, x.log(0, what), stolen[what]);
            due("the one before " + what, x.log(1, what), carried[what]);
            due("without " + what, x.log(2, what), -2);
            due("ago 60, " + what, x.log(60, what), -2);
            due("ago - 1, " + what, x.log(-1, what), -2);
            due("ago the least, " + what, x.log(Integer.MIN_VALUE, what), -2);
            due("ago the greatest, " + what, x.log(Integer.MAX_VALUE, what), -2);
        }
        int[] others = {-1, 5, Integer.MAX_VALUE, Integer.MIN_VALUE};
        for (int what : others) {
            noSuch("what " + what, () -> x.log(0, what));
            noSuch("what " + what + " without", () -> x.log(9, what));
            noSuch("what " + what + ", ago - 1", () -> x.log(-1, what));
        }
        noSuch("of an empty log", () -> new SeeSawHill().log(0, 5));
        due("an empty log", new SeeSawHill().log(0, 0), -2);
    }

    private static void seed() {
        promised(43, "SEED: what it was.");
        SeeSawHill x = new SeeSawHill();
        due("1 at first", x.seed(0), 1);
        due("0", x.seed(Integer.MIN_VALUE), 0);
        due("the least", x.seed(Integer.MAX_VALUE), Integer.MIN_VALUE);
        due("the greatest", x.seed(-1), Integer.MAX_VALUE);
        due("no act", x.count(14), 0);
        x.weeks(1);
        x.undo();
        due("undone with its draws", x.seed(5), -1);
        x.image();
        x.seed(6);
        x.back();
        due("of the image", x.seed(7), 5);
    }

    private static void undoAndImage() {
        promised(44, "UNDONE: whether there was one.");
        SeeSawHill x = small();
        due("none", x.undo(), false);
        x.sweep();
        due("one", x.undo(), true);
        due("no second", x.undo(), false);
        for (int i = 0; i < 13; i++) x.sweep();
        for (int i = 0; i < 12; i++) due("of 12 " + i, x.undo(), true);
        due("no 13th", x.undo(), false);

        promised(45, "THE IMAGE is kept.");
        SeeSawHill y = small();
        y.guests(0, 1);
        String was = all(y);
        y.image();
        due("it changes nothing", all(y), was);
        y.guests(0, 2);
        y.image();
        y.guests(0, 3);

        promised(46, "One goes back to THE IMAGE: true; false, and nothing happens, if none was kept.");
        due("true", y.back(), true);
        due("to the latest", y.house(0, 1), 2);
        due("again", y.back(), true);
        SeeSawHill z = small();
        z.guests(0, 1);
        put(z, "fee");
        String now = all(z);
        due("none was kept", z.back(), false);
        due("nothing happened", all(z), now);
        due("nor to the tape", onTape(z), 3);
        due("undo does", z.undo(), true);
        due("still none", z.back(), false);
    }

    private static void counts() {
        promised(47, "0 PLANKS, 1 THINGS, 2 texts of THE HILL, 3 LINES of THE LAW (NONE without one), 4 WEEK, 5 SNOW, 6 STEP, 7 FALL, 8 THIEVES, 9 FEE, 10 PLANKS BROKEN, as bits, 11 THINGS gone, as bits, 12 PURSES of all together, 13 rows of THE LOG, 14 acts that can be UNDONE. NONE for another what.");
        SeeSawHill x = of("plank 400;plank 12;plank 400;thing 11 worth 1 in 2;thing 1 worth 9 in 5;purse 4 7;snow 6;step 5;fall 0;thieves 100;fee 2");
        hill(x, "");
        int[] first = {3, 2, 2, NONE, 0, 6, 5, 0, 100, 2, 0, 0, 507, 0, 0};
        for (int what = 0; what < 15; what++) due("count " + what, x.count(what), first[what]);
        law(x, "rent 1;rent 2;rent 3");
        x.weeks(1);
        x.carry(0, 0);
        x.sweep();
        // House 2 stood at 3 (11 by 5), house 3 at 7; the others at 5: 16, 16, 12, 20, 7 of 16, 16 are paid.
        int[] then = {3, 2, 2, 3, 1, 0, 5, 0, 100, 2, 2, 2, 507 - 16 - 16 - 12 - 20 - 7 - 16, 2, 3};
        for (int what = 0; what < 15; what++) due("count then " + what, x.count(what), then[what]);
        int[] others = {-1, 15, 16, Integer.MAX_VALUE, Integer.MIN_VALUE};
        for (int what : others) due("count " + what, x.count(what), NONE);
        due("no purses", new SeeSawHill().count(12), 0);
        due("an empty law", lawCount(""), 0);
        due("12 lines", lawCount(repeat("age 0;", 11) + "age 0"), 12);
        SeeSawHill y = of(repeat("plank 10;", 4) + "plank 10;snow 99;thieves 100" + repeat(";thing 1 worth 1 in 9", 7));
        y.weeks(7);
        due("all broken", y.count(10), 31);
        due("all gone", y.count(11), 127);
    }

    private static int lawCount(String text) {
        SeeSawHill x = new SeeSawHill();
        law(x, text);
        return x.count(3);
    }
}
