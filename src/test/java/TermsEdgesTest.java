/**
 * Each sentence under the document's 'Terms' up to THE LAW that names a boundary case, by its own words:
 * what is still right, and what is just too small, too large, too many, missing or refused.
 */
public final class TermsEdgesTest extends Checks {
    private static final String ONE = "plank 99;thing 7 worth 3 in 1";

    public static void main(String[] args) {
        numberOfPlanks();
        boundsOfPlanks();
        numbersOfHouses();
        boundsOfHouses();
        numberOfThings();
        boundsOfThings();
        snowAndLoad();
        stepAndTilt();
        heightAndLevel();
        settings();
        textsAndLines();
        housesByThen();
        digits();
        lawLines();
        lawNumbers();
        lawConditions();
        lawFacts();
        lawSums();
        wordsAndBlanks();
        depth();
        firstWrongByte();
        nothingStays();
        finish("TermsEdgesTest");
    }

    // ---- PLANKS, HOUSES, THINGS

    private static void numberOfPlanks() {
        told("PLANKS (at most 5, numbered from 0 on)");
        SeeSawHill x = of("plank 11;plank 12;plank 13;plank 14;plank 15");
        due("five", x.count(0), 5);
        for (int plank = 0; plank < 5; plank++) due("plank " + plank, x.plank(plank, 0), 11 + plank);
        outOfBounds("a sixth", () -> x.plank(5, 0));
        for (int plank : NEVER) outOfBounds("plank " + plank, () -> x.plank(plank, 0));
        wrongHill("fee 1", repeat("plank 10;", 5) + " plank 10", 46);
        wrongHill(repeat("plank 10;", 4) + "plank 10", "fee 2; plank 10", 7);
        wrongHill(repeat("plank 10;", 3) + "plank 10", "plank 10;plank 10", 9);
        SeeSawHill y = of(repeat("plank 10;", 3) + "plank 10");
        due("the fifth by another text", hill(y, "plank 44"), 2);
        due("its number", y.plank(4, 0), 44);
        outOfBounds("of an empty hill", () -> new SeeSawHill().plank(0, 0));
    }

    private static void boundsOfPlanks() {
        told("BEARS 10 to 400");
        due("10", of("plank 10").plank(0, 0), 10);
        due("400", of("plank 400").plank(0, 0), 400);
        for (String n : new String[] {"0", "9", "009", "401", "999"}) wrongHill(ONE, "plank " + n, 6);

        told("AGE 0 to 99 (0 at first)");
        due("at first", of("plank 50").plank(0, 1), 0);
        due("0", of("plank 50 age 0").plank(0, 1), 0);
        due("99", of("plank 50 age 99").plank(0, 1), 99);
        wrongHill(ONE, "plank 50 age 100", 13);
        wrongHill(ONE, "plank 50 age 999", 13);

        told("PROPPED or not (not at first), BROKEN or not");
        SeeSawHill x = of("plank 10 age 99;snow 99");
        due("not propped at first", x.plank(0, 2), 0);
        due("not broken at first, whatever it bears", x.plank(0, 3), 0);
        x.prop(0, true);
        due("propped", x.plank(0, 2), 1);
        x.weeks(1);
        due("broken", x.plank(0, 3), 1);
        due("propped as before", x.plank(0, 2), 1);
    }

    private static void numbersOfHouses() {
        told("HOUSES: two of each PLANK, numbered 2 times its number and that and 1");
        SeeSawHill x = of("plank 90;plank 90;plank 90;thing 8 worth 0 in 4;thing 9 worth 0 in 5;thing 50 worth 0 in 3");
        due("of plank 2 the first", x.house(4, 4), 1);
        due("of plank 2 the second", x.house(5, 4), 2);
        due("plank 1 tilts by house 3", x.plank(1, 4), 10);
        due("plank 0 does not", x.plank(0, 4), 5);
        due("nor plank 2", x.plank(2, 4), 5);
        outOfBounds("house 6 of three planks", () -> x.house(6, 0));
        SeeSawHill y = of(repeat("plank 10;", 4) + "plank 10");
        due("the tenth", y.house(9, 0), 100);
        for (int house : NEVER) outOfBounds("house " + house, () -> y.house(house, 0));
        outOfBounds("of an empty hill", () -> new SeeSawHill().house(0, 0));
    }

    private static void boundsOfHouses() {
        told("PURSE 0 to 9999 (100 at first)");
        SeeSawHill x = of("plank 400;plank 400;fee 99");
        due("at first", x.house(3, 0), 100);
        x.weeks(1);
        due("never below 0", x.house(3, 0), 0);
        SeeSawHill y = of("plank 400;purse 1 999;purse 0 999");
        for (int i = 0; i < 9; i++) {
            y.give(0, 1, 999);
            hill(y, "purse 0 999");
        }
        due("9990", y.house(1, 0), 9990);
        due("one to 9998", y.give(0, 1, 8), 9998);
        due("9999", y.give(0, 1, 1), 9999);
        due("never above", y.give(0, 1, 1), 9999);
        due("the giver has given all the same", y.house(0, 0), 989);

        told("GUESTS 0 to 9 (0 at first; 5 of weight each)");
        SeeSawHill g = of("plank 400");
        due("at first", g.house(1, 1), 0);
        due("no weight of none", g.house(1, 2), 0);
        g.guests(1, 1);
        due("5 of one", g.house(1, 2), 5);
        g.guests(1, 9);
        due("45 of nine", g.house(1, 2), 45);
        due("none at the other", g.house(0, 2), 0);
        refused("10", g, IllegalArgumentException.class, 0, () -> g.guests(1, 10));
        refused("-1", g, IllegalArgumentException.class, 0, () -> g.guests(1, -1));
    }

    private static void numberOfThings() {
        told("THINGS (at most 10, numbered from 0 on)");
        StringBuilder ten = new StringBuilder("plank 99");
        for (int thing = 0; thing < 10; thing++) ten.append(";thing ").append(21 + thing).append(" worth 1 in 1");
        SeeSawHill x = of(ten.toString());
        due("ten", x.count(1), 10);
        for (int thing = 0; thing < 10; thing++) due("thing " + thing, x.thing(thing, 0), 21 + thing);
        for (int thing : NEVER) outOfBounds("thing " + thing, () -> x.thing(thing, 0));
        due("all ten as bits", x.house(1, 4), 1023);
        wrongHill(ten.toString(), " thing 1 worth 1 in 1", 1);
        wrongHill(ten.toString(), "fee 1;thing", 6);
        wrongHill("plank 99;plank 99", "step 9" + repeat(";thing 1 worth 1 in 0", 11), 217);
        SeeSawHill y = of("plank 99" + repeat(";thing 3 worth 1 in 1", 9) + ";thieves 100");
        outOfBounds("a tenth of nine", () -> y.thing(9, 0));
        y.weeks(9);
        hill(y, "thing 4 worth 1 in 0");
        due("the tenth by another text", y.thing(9, 0), 4);
        illegal("those that are gone count, too", () -> hill(y, "thing 4 worth 1 in 0"));
        due("its fault", y.fault(), 0);
    }

    private static void boundsOfThings() {
        told("WEIGHT 1 to 60, WORTH 0 to 99, in a HOUSE, or gone");
        SeeSawHill x = of("plank 99;thing 1 worth 0 in 0;thing 60 worth 99 in 1;thieves 100");
        due("weight 1", x.thing(0, 0), 1);
        due("weight 60", x.thing(1, 0), 60);
        due("worth 0", x.thing(0, 1), 0);
        due("worth 99", x.thing(1, 1), 99);
        due("in a house", x.thing(1, 2), 1);
        x.weeks(1);
        due("gone", x.thing(1, 2), NONE);
        due("the weight of what is gone", x.thing(1, 0), 60);
        due("its worth", x.thing(1, 1), 99);
        due("it weighs on no house", x.house(1, 2), 0);
        for (String n : new String[] {"0", "000", "61", "999"}) wrongHill(ONE, "thing " + n + " worth 1 in 0", 6);
        wrongHill(ONE, "thing 1 worth 100 in 0", 14);
        wrongHill(ONE, "thing 1 worth 999 in 0", 14);
    }

    private static void snowAndLoad() {
        told("SNOW 0 to 99 on each HOUSE (0 at first)");
        due("at first", of("plank 99").count(5), 0);
        due("0", of("snow 0").count(5), 0);
        SeeSawHill x = of("plank 400;plank 400;snow 99");
        due("99", x.count(5), 99);
        for (int house = 0; house < 4; house++) due("on house " + house, x.house(house, 2), 99);
        wrongHill(ONE, "snow 100", 5);

        told("LOAD of a HOUSE: WEIGHT of the THINGS in it, 5 for each GUEST, and SNOW");
        SeeSawHill y = of("plank 400;plank 400;guests 1 9;thing 60 worth 1 in 1;thing 1 worth 1 in 1;thing 30 worth 1 in 2;snow 99");
        due("all three", y.house(1, 2), 60 + 1 + 45 + 99);
        due("snow alone", y.house(0, 2), 99);
        hill(y, "plank 400");
        due("of a house that comes behind", y.house(5, 2), 99);
    }

    /** TILT and 5 of a plank with so much in its two houses (multiples of 5 by guests, the rest by things). */
    private static int tiltOf(int first, int second, int step) {
        StringBuilder text = new StringBuilder("plank 400;step ").append(step);
        int[] loads = {first, second};
        for (int house = 0; house < 2; house++) {
            for (int left = loads[house]; left > 0; left -= 60) {
                text.append(";thing ").append(Math.min(60, left)).append(" worth 0 in ").append(house);
            }
        }
        return of(text.toString()).plank(0, 4) - 5;
    }

    private static void stepAndTilt() {
        told("STEP 1 to 40 (10 at first)");
        due("at first", new SeeSawHill().count(6), 10);
        due("1", of("step 1").count(6), 1);
        due("40", of("step 40").count(6), 40);
        wrongHill(ONE, "step 0", 5);
        wrongHill(ONE, "step 000", 5);
        wrongHill(ONE, "step 41", 5);

        told("TILT of a PLANK: LOAD of its second HOUSE less that of its first one, by STEP, rounded towards 0, - 5 at least, 5 at most; 0, if it is PROPPED");
        due("none", tiltOf(0, 0, 10), 0);
        due("9 of 10", tiltOf(0, 9, 10), 0);
        due("10 of 10", tiltOf(0, 10, 10), 1);
        due("19 of 10", tiltOf(0, 19, 10), 1);
        due("- 9 of 10", tiltOf(9, 0, 10), 0);
        due("- 10 of 10", tiltOf(10, 0, 10), -1);
        due("- 19 of 10", tiltOf(19, 0, 10), -1);
        due("- 20 of 10", tiltOf(20, 0, 10), -2);
        due("49 of 10", tiltOf(0, 49, 10), 4);
        due("50 of 10", tiltOf(0, 50, 10), 5);
        due("60 of 10", tiltOf(0, 60, 10), 5);
        due("- 49 of 10", tiltOf(49, 0, 10), -4);
        due("- 50 of 10", tiltOf(50, 0, 10), -5);
        due("- 60 of 10", tiltOf(60, 0, 10), -5);
        due("5 of 1", tiltOf(7, 12, 1), 5);
        due("- 6 of 1", tiltOf(12, 6, 1), -5);
        due("39 of 40", tiltOf(0, 39, 40), 0);
        due("- 199 of 40", tiltOf(199, 0, 40), -4);
        due("- 200 of 40", tiltOf(200, 0, 40), -5);
        SeeSawHill x = of("plank 400;thing 60 worth 1 in 0");
        due("not propped", x.plank(0, 4), 0);
        x.prop(0, true);
        due("propped", x.plank(0, 4), 5);
        x.prop(0, false);
        due("no more", x.plank(0, 4), 0);
    }

    private static void heightAndLevel() {
        told("HEIGHT of a HOUSE: 5 and TILT (the first one), 5 less TILT (the second one); 0, if the PLANK is BROKEN");
        SeeSawHill x = of("plank 400;plank 400;plank 60;thing 60 worth 1 in 0;thing 12 worth 1 in 3;thing 60 worth 1 in 5");
        int[] heights = {0, 10, 6, 4, 10, 0};
        for (int house = 0; house < 6; house++) due("height " + house, x.house(house, 3), heights[house]);
        x.weeks(1);
        due("broken, the upper one", x.house(4, 3), 0);
        due("broken, the lower one", x.house(5, 3), 0);
        x.prop(2, true);
        due("broken and propped", x.house(4, 3), 0);

        told("LEVEL: TILT 0, not BROKEN");
        SeeSawHill y = of("plank 400;plank 10;plank 400;thing 9 worth 1 in 0;thing 10 worth 1 in 5;snow 30");
        due("tilt 0", y.plank(0, 5), 1);
        due("tilt 0 of another", y.plank(1, 5), 1);
        due("tilt - 1", y.plank(2, 5), 0);
        y.weeks(1);
        due("broken with tilt 0", y.plank(1, 4), 5);
        due("is not level", y.plank(1, 5), 0);
        y.prop(2, true);
        due("propped is", y.plank(2, 5), 1);
    }

    private static void settings() {
        told("FALL 0 to 100, THIEVES 0 to 100 (0 at first)");
        due("fall at first", new SeeSawHill().count(7), 0);
        due("thieves at first", new SeeSawHill().count(8), 0);
        due("fall 100", of("fall 100").count(7), 100);
        due("thieves 100", of("thieves 100").count(8), 100);
        due("fall 0", of("fall 7;fall 0").count(7), 0);
        due("thieves 0", of("thieves 7;thieves 0").count(8), 0);
        wrongHill(ONE, "fall 101", 5);
        wrongHill(ONE, "thieves 101", 8);

        told("FEE 0 to 99 (3 at first). WEEK: 0 at first");
        due("at first", new SeeSawHill().count(9), 3);
        due("0", of("fee 0").count(9), 0);
        due("99", of("fee 99").count(9), 99);
        wrongHill(ONE, "fee 100", 4);
        due("week", new SeeSawHill().count(4), 0);
    }

    // ---- THE HILL

    private static void textsAndLines() {
        told("THE HILL is told in texts (at most 12, one behind another): LINE { ; LINE }, at most 14");
        SeeSawHill x = new SeeSawHill();
        for (int text = 1; text <= 12; text++) due("text " + text, hill(x, text == 3 ? "" : "fee " + text), text);
        put(x, "fee 13");
        refused("a 13th", x, UnsupportedOperationException.class, 0, () -> x.hill());
        put(x, "");
        refused("an empty 13th", x, UnsupportedOperationException.class, 0, () -> x.hill());
        due("fee of the 12th", x.count(9), 12);
        due("14 lines", hill(new SeeSawHill(), "step 3" + repeat(";fee 1", 13)), 1);
        wrongHill(ONE, repeat("fee 1;", 14) + "fee 1", 84);
        wrongHill(ONE, repeat("fee 1;", 14) + "   fee 1;fee 1", 87);
        wrongHill(ONE, repeat("fee 1;", 14) + "oops", 84);
        wrongHill(ONE, repeat("fee 1;", 14), 84);
        wrongHill(ONE, repeat("fee 1;", 13) + "fee", 81);
        SeeSawHill y = of(repeat("fee 1;", 13) + "fee 1");
        due("14 more by another text", hill(y, repeat("fee 2;", 13) + "fee 2"), 2);
    }

    private static void housesByThen() {
        told("H: a HOUSE that there is by then; PURSE 0 to 999; N of guests 0 to 9.");
        SeeSawHill x = of("plank 10;purse 1 0;purse 0 999;guests 0 0;guests 1 9;thing 1 worth 1 in 1;plank 10;purse 3 5;thing 2 worth 1 in 2");
        due("purse 0", x.house(1, 0), 0);
        due("purse 999", x.house(0, 0), 999);
        due("guests 9", x.house(1, 1), 9);
        due("of the second plank", x.house(3, 0), 5);
        due("thing in it", x.thing(1, 2), 2);
        due("of a text before", hill(x, "purse 3 6;guests 2 1"), 2);
        due("told anew", x.house(3, 0), 6);
        wrongHill("fee 1", "purse 0 5", 6);
        wrongHill("fee 1", "guests 0 5", 7);
        wrongHill("fee 1", "thing 1 worth 1 in 0", 19);
        wrongHill("fee 1", "purse 0 5;plank 10", 6);
        wrongHill(ONE, "purse 2 5;plank 10", 6);
        wrongHill(ONE, "purse 002 5", 6);
        wrongHill(ONE, "guests 2 5", 7);
        wrongHill(ONE, "thing 1 worth 1 in 2", 19);
        wrongHill(ONE, "plank 10;purse 4 5", 15);
        wrongHill(ONE, "purse 1 1000", 8);
        wrongHill(ONE, "guests 1 10", 9);
        wrongHill(repeat("plank 10;", 4) + "plank 10", "purse 10 1", 6);
        due("house 9", of(repeat("plank 10;", 5) + "purse 9 1").house(9, 0), 1);
    }

    private static void digits() {
        told("Numbers are of 1 to 3 digits.");
        due("1 digit", of("plank 10;purse 1 7").house(1, 0), 7);
        due("2 digits", of("plank 10;purse 01 07").house(1, 0), 7);
        due("3 digits", of("plank 010;purse 001 007").house(1, 0), 7);
        due("000", of("fee 000").count(9), 0);
        wrongHill(ONE, "plank 0010", 6);
        wrongHill(ONE, "plank 10 age 0000", 13);
        wrongHill(ONE, "purse 0001 7", 6);
        wrongHill(ONE, "purse 1 0007", 8);
        wrongHill(ONE, "guests 1 0000", 9);
        wrongHill(ONE, "thing 0001 worth 1 in 0", 6);
        wrongHill(ONE, "thing 1 worth 0001 in 0", 14);
        wrongHill(ONE, "thing 1 worth 1 in 0000", 19);
        wrongHill(ONE, "snow 0001", 5);
        wrongHill(ONE, "step 0001", 5);
        wrongHill(ONE, "fall 0001", 5);
        wrongHill(ONE, "thieves 0001", 8);
        wrongHill(ONE, "fee 0001", 4);
        wrongHill(ONE, "fee " + repeat("9", 60), 4);
        wrongHill(ONE, "fee " + repeat("0", 60), 4);
        wrongHill(ONE, "fee 4294967297", 4);
        wrongHill(ONE, "fee -1", 4);
        wrongHill(ONE, "fee +1", 4);
        wrongHill(ONE, "fee 1.5", 5);
    }

    // ---- THE LAW

    private static void lawLines() {
        told("THE LAW (a text, in place of the one before): LINE { ; LINE }, at most 12");
        SeeSawHill x = of("plank 99");
        due("none", x.count(3), NONE);
        due("12 lines", law(x, repeat("rent 5;", 11) + "rent 5"), 12);
        due("all hold", x.house(0, 5), 15 + 60);
        due("in its place", law(x, "rent 7"), 1);
        due("it alone holds", x.house(0, 5), 15 + 7);
        due("an empty one in its place", law(x, ""), 0);
        due("lines", x.count(3), 0);
        due("nothing holds", x.house(0, 5), 15);
        for (int i = 0; i < 30; i++) due("any number of texts", law(x, "lure 1;age 1"), 2);
        wrongLaw(repeat("age 5;", 12) + "age 5", 72);
        wrongLaw(repeat("age 5;", 12) + "  oops", 74);
        wrongLaw(repeat("age 5;", 12), 72);
        wrongLaw(repeat("age 5;", 11) + "age", 69);
    }

    private static void lawNumbers() {
        told("All numbers are of 1 to 3 digits (N 0 to 60).");
        SeeSawHill x = of("plank 99");
        law(x, "rent 0;lure 0;age 0");
        due("rent 0", x.house(0, 5), 15);
        due("lure 0", x.house(0, 6), 0);
        due("age 0", x.plank(0, 6), 1);
        law(x, "rent 60;lure 060;age 60");
        due("rent 60", x.house(0, 5), 75);
        due("lure 60", x.house(0, 6), 60);
        due("age 60", x.plank(0, 6), 61);
        law(x, "rent 1 if 999 > 998;rent 2 if 000 < 001;rent 4 if 999 + 999 > 999;rent 8 if 0 < 0");
        due("0 to 999", x.house(0, 5), 15 + 7);
        for (String word : new String[] {"rent", "lure", "age"}) {
            wrongLaw(word + " 61", word.length() + 1);
            wrongLaw(word + " 999", word.length() + 1);
            wrongLaw(word + " 0060", word.length() + 1);
            wrongLaw(word + " if up", word.length() + 1);
            wrongLaw(word, word.length());
        }
        wrongLaw("rent 1 if 1000 > 2", 10);
        wrongLaw("rent 1 if 0001 > 2", 10);
        wrongLaw("rent 1 if load > 1000", 17);
        wrongLaw("rent 1 if load > 1 + 1000", 21);
    }

    /** What of 1 2 4 .. the first house pays by LINES with these conditions; heights 5 and 5, loads 0. */
    private static int holding(String... conditions) {
        StringBuilder text = new StringBuilder();
        for (int i = 0; i < conditions.length; i++) {
            text.append(i == 0 ? "" : ";").append("rent ").append(1 << i).append(" if ").append(conditions[i]);
        }
        return of("plank 99;fee 0", text.toString()).house(0, 5);
    }

    private static void lawConditions() {
        told("C: ALL { or ALL }; ALL: ATOM { and ATOM }; ATOM: not ATOM | ( C ) | up | level | SUM < SUM | SUM > SUM.");
        due("level and up", holding("level", "up", "not level", "not up"), 1 + 8);
        due("or", holding("up or up", "up or level", "level or up", "level or level"), 2 + 4 + 8);
        due("and", holding("up and up", "up and level", "level and up", "level and level"), 8);
        due("and ahead of or", holding("level or level and up", "up and level or level", "up and up or up", "up or up and level"), 3);
        due("brackets ahead of and", holding("(level or level) and up", "up and (level or level)", "level and (up or level)"), 4);
        due("not ahead of and", holding("not up and level", "not level and up", "not (level and up)", "not (up or level)"), 1 + 4);
        due("not ahead of or", holding("not level or level", "not (level or level)"), 1);
        due("not of a comparison", holding("not 1 < 2", "not 2 < 1", "not 1 > 2 and level", "not 1 + 1 > 1"), 2 + 4);
        due("equal is neither", holding("5 < 5", "5 > 5", "height < 5", "height > 5"), 0);
        due("one apart", holding("4 < 5", "5 > 4", "height < 6", "height > 4"), 15);
        due("many of each", holding("up or up or up or level", "level and level and level and up", "1 < 2 and 2 > 1 and level or up"), 1 + 4);
        wrongLaw("rent 1 if", 9);
        wrongLaw("rent 1 if or", 10);
        wrongLaw("rent 1 if and", 10);
        wrongLaw("rent 1 if up or", 15);
        wrongLaw("rent 1 if up or or up", 16);
        wrongLaw("rent 1 if up and", 16);
        wrongLaw("rent 1 if not", 13);
        wrongLaw("rent 1 if not )", 14);
        wrongLaw("rent 1 if up not level", 13);
        wrongLaw("rent 1 if (", 11);
        wrongLaw("rent 1 if (up", 13);
        wrongLaw("rent 1 if (up;", 13);
        wrongLaw("rent 1 if up)", 12);
        wrongLaw("rent 1 if ( )", 12);
        wrongLaw("rent 1 if 1", 11);
        wrongLaw("rent 1 if 1 <", 13);
        wrongLaw("rent 1 if 1 < ;", 14);
        wrongLaw("rent 1 if < 1", 10);
        wrongLaw("rent 1 if 1 = 1", 12);
        wrongLaw("rent 1 if 1 < > 1", 14);
        wrongLaw("rent 1 if 1 < 2 > 3", 16);
        wrongLaw("rent 1 if 1 < 2 level", 16);
        wrongLaw("rent 1 if up < 2", 13);
        wrongLaw("rent 1 if not 1 and up", 16);
        wrongLaw("rent 1 if (1) < 2", 12);
        wrongLaw("rent 1 if 1 < (2)", 14);
    }

    private static void lawFacts() {
        told("Of a HOUSE: aged: AGE of its PLANK; up: HEIGHT is above 5; level: its PLANK is LEVEL.");
        SeeSawHill x = of("plank 99 age 7;plank 99 age 98;thing 10 worth 0 in 2;fee 0",
                "rent 1 if up;rent 2 if level;rent 4 if aged > 6;rent 8 if aged > 97;rent 16 if not up and not level");
        due("height 5", x.house(0, 5), 2 + 4);
        due("height 4", x.house(2, 5), 4 + 8 + 16);
        due("height 6", x.house(3, 5), 1 + 4 + 8);
        x.prop(1, true);
        due("propped", x.house(3, 5), 2 + 4 + 8);
        SeeSawHill y = of("plank 10;snow 99;fee 9", "rent 1 if up;rent 2 if level;rent 4 if not (height > 0)");
        y.weeks(1);
        due("broken is neither", y.house(0, 5), 4);

        told("PAYS: FEE for each of its HEIGHT, and the sum of N of all rent LINES that hold.");
        SeeSawHill p = of("plank 99;thing 50 worth 0 in 0;fee 99");
        due("height 0", p.house(0, 5), 0);
        due("height 10", p.house(1, 5), 990);
        law(p, repeat("rent 60 if up;", 11) + "rent 60");
        due("of one LINE", p.house(0, 5), 60);
        due("of twelve", p.house(1, 5), 990 + 720);
        law(p, "lure 5;age 6");
        due("of rent alone", p.house(1, 5), 990);

        told("LURES by: the sum of N of all lure LINES that hold, and WORTH of all THINGS in it.");
        SeeSawHill l = of("plank 99;thing 1 worth 99 in 0;thing 1 worth 98 in 0", "lure 1 if house < 1;lure 2 if house < 1;lure 4;rent 8;age 16");
        due("both", l.house(0, 6), 197 + 7);
        due("without things", l.house(1, 6), 4);
        law(l, "");
        due("without lines", l.house(0, 6), 197);
        due("without both", l.house(1, 6), 0);

        told("AGES by (of a PLANK, asked of its first HOUSE): 1 and the sum of N of all age LINES that hold.");
        SeeSawHill a = of("plank 99;plank 99;guests 3 1", "age 2 if house < 1;age 4 if guests > 0;age 8 if house > 1;age 16;lure 32;rent 7");
        due("of house 0", a.plank(0, 6), 1 + 2 + 16);
        due("of house 2, not of 3", a.plank(1, 6), 1 + 8 + 16);
        law(a, "");
        due("1 without", a.plank(1, 6), 1);
        law(a, repeat("age 60;", 11) + "age 60");
        due("at most", a.plank(1, 6), 721);
    }

    private static void lawSums() {
        told("SUM: PART { + PART }; PART: NUMBER | house | height | load | guests | aged | week.");
        SeeSawHill x = of("plank 400 age 40;plank 400 age 50;thing 60 worth 0 in 3;guests 3 2;snow 1;fee 0");
        // Of house 3: height 0, load 71, guests 2, aged 50, week 0.
        String[] sums = {"house", "height", "load", "guests", "aged", "week", "house + load", "1+2+3+load+aged+guests+height+house+week"};
        int[] values = {3, 0, 71, 2, 50, 0, 74, 132};
        for (int i = 0; i < sums.length; i++) {
            law(x, "rent 1 if " + sums[i] + " > " + values[i] + ";rent 2 if " + sums[i] + " < " + values[i]
                    + ";rent 4 if " + sums[i] + " < " + (values[i] + 1) + ";rent 8 if " + (values[i] + 1) + " > " + sums[i]);
            due(sums[i], x.house(3, 5), 12);
        }
        x.weeks(2);
        law(x, "rent 1 if week > 1;rent 2 if week > 2;rent 4 if 3 > week");
        due("week 2", x.house(0, 5), 5);
        wrongLaw("rent 1 if +", 10);
        wrongLaw("rent 1 if 1 +", 13);
        wrongLaw("rent 1 if 1 + + 2 > 0", 14);
        wrongLaw("rent 1 if 1 + up > 0", 14);
        wrongLaw("rent 1 if 1 2 > 0", 12);
        wrongLaw("rent 1 if load load > 0", 15);
        wrongLaw("rent 1 if load - 1 > 0", 15);
        String longest = "rent 1 if 0" + repeat("+9", 192) + ">999";
        due("the longest sum", law(x, longest), 1);
        due("it holds", x.house(0, 5), 1);
        due("the longest chain", law(x, "rent 1 if up" + repeat(" or up", 63) + " or level"), 1);
        x.prop(0, true);
        due("its end holds", x.house(0, 5), 1);
    }

    // ---- What texts are made of

    private static void wordsAndBlanks() {
        told("Words are as long as a to z go on; between all there may be blanks (32), also ahead and behind.");
        SeeSawHill x = of("   plank10age7;thing5worth6in1  ;  plank   20   age   8   ");
        due("without blanks", x.plank(0, 1), 7);
        due("with blanks", x.plank(1, 1), 8);
        due("thing", x.thing(0, 2), 1);
        due("law", law(x, " rent 1if(up or level)and not(1<0);lure2if load+1>0"), 2);
        due("it holds", x.house(0, 5), 15 + 1);
        wrongHill(ONE, "planka 10", 0);
        wrongHill(ONE, "plan k 10", 0);
        wrongHill(ONE, "plank 10 ag e 5", 9);
        wrongHill(ONE, "plank 10ages 5", 8);
        wrongHill(ONE, "thing 1 worthin 0", 8);
        wrongHill(ONE, "fee 1 2", 6);
        wrongHill(ONE, "fee\t1", 3);
        wrongHill(ONE, "\tfee 1", 0);
        wrongHill(ONE, "fee 1\n", 5);
        wrongHill(ONE, "fee 1" + (char) 0, 5);
        wrongHill(ONE, "fee 1" + (char) 160, 5);
        wrongHill(ONE, (char) 255 + "fee 1", 0);
        wrongHill(ONE, "FEE 1", 0);
        wrongHill(ONE, "fEe 1", 0);
        wrongHill(ONE, "feez 1", 0);
        wrongHill(ONE, "feea 1", 0);
        wrongHill(ONE, "zfee 1", 0);
        wrongHill(ONE, "fee` 1", 3);
        wrongHill(ONE, "fee{ 1", 3);
        wrongHill(ONE, "fee /", 4);
        wrongHill(ONE, "fee :", 4);
        wrongLaw("rent 1 ifup", 7);
        wrongLaw("rent 1 if notup", 10);
        wrongLaw("rent 1 if up orlevel", 13);
        wrongLaw("rent 1 if loads > 1", 10);

        told("A text that is empty, or blanks alone, has no LINE.");
        SeeSawHill y = new SeeSawHill();
        due("empty", hill(y, ""), 1);
        due("one blank", hill(y, " "), 2);
        put(y, repeat(" ", 400));
        due("400 blanks", y.hill(), 3);
        due("an empty law", law(y, ""), 0);
        due("a law of blanks", law(y, repeat(" ", 400)), 0);
        due("fault", y.fault(), NONE);
        wrongHill(ONE, ";", 0);
        wrongHill(ONE, " ; ", 1);
        wrongHill(ONE, "fee 1; ;fee 1", 7);
        wrongLaw(" ;", 1);
    }

    private static void depth() {
        told("( and not within one another at most 6 deep.");
        SeeSawHill x = of("plank 99;fee 0");
        due("6 (", law(x, "rent 1 if ((((((level))))))"), 1);
        due("holds", x.house(0, 5), 1);
        due("6 not", law(x, "rent 1 if not not not not not not level"), 1);
        due("holds, too", x.house(0, 5), 1);
        due("5 not", law(x, "rent 1 if not not not not not level"), 1);
        due("does not", x.house(0, 5), 0);
        due("mixed", law(x, "rent 1 if (not (not (not up)))"), 1);
        due("anew in each LINE", law(x, "rent 1 if ((((((up))))));rent 2 if ((((((level))))))"), 2);
        due("anew behind each", law(x, "rent 1 if (((((up))or((level)))))or((((((up))))))and not not not not not not up"), 1);
        wrongLaw("rent 1 if (((((((level)))))))", 16);
        wrongLaw("rent 1 if (((((( not level))))))", 17);
        wrongLaw("rent 1 if not not not not not not not level", 34);
        wrongLaw("rent 1 if not not not not not not (level)", 34);
        wrongLaw("rent 1 if ((((((level)))))) and (((((((", 38);
        wrongLaw("rent 1 if (((((( up and not", 24);
        wrongLaw("rent 1 if ((((((", 16);
        wrongLaw("rent 1 if " + repeat("(", 390), 16);
    }

    private static void firstWrongByte() {
        told("The first wrong byte: the begin of the first thing that cannot stand there");
        wrongHill(ONE, "  10", 2);
        wrongHill(ONE, "plank plank", 6);
        wrongHill(ONE, "plank ; fee 1", 6);
        wrongHill(ONE, "plank 10 10", 9);
        wrongHill(ONE, "plank 10 worth 1", 9);
        wrongHill(ONE, "purse fee", 6);
        wrongHill(ONE, "purse 1;fee 1", 7);
        wrongHill(ONE, "thing 1 in 1 worth 1", 8);
        wrongHill(ONE, "thing 1 worth in 1", 14);
        wrongHill(ONE, "thing 1 worth 1 1", 16);
        wrongHill(ONE, "fee 5 fee 5", 6);
        wrongHill(ONE, "rent 5", 0);
        wrongHill(ONE, "fee 5,fee 5", 5);
        wrongHill(ONE, "age 5", 0);
        wrongLaw("plank 10", 0);
        wrongLaw("if up", 0);
        wrongLaw("rent 5 5", 7);
        wrongLaw("rent 5 if up if up", 13);
        wrongLaw("rent 5 age 5", 7);

        told("(a number of more digits, or out of its bounds, or that tells none that can be; a word that is none; the ( or not that is a 7th one deep; of a LINE, a PLANK, a THING too many, the first word)");
        wrongHill(ONE, "fee 1;fee  1234;oops", 11);
        wrongHill(ONE, "fee 1;fee  100 oops", 11);
        wrongHill(ONE, "guests  2 oops", 8);
        wrongHill(ONE, "fee 1; feed 5", 7);
        wrongHill(ONE, "thing 1 worths 5", 8);
        wrongLaw("rent 1;age 1 if  not(not(not(not up)))", 29);
        wrongLaw(repeat("age 1;", 12) + "  rent 99", 74);
        wrongHill(repeat("plank 10;", 4) + "plank 10", "plank oops", 0);
        wrongHill("plank 10" + repeat(";thing 1 worth 1 in 1", 10), "thing oops", 0);

        told("or the text's length, if more must come.");
        String[] halves = {"plank", "plank 10 age", "purse", "purse 1", "guests", "guests 1", "thing", "thing 1", "thing 1 worth",
            "thing 1 worth 1", "thing 1 worth 1 in", "snow", "step", "fall", "thieves", "fee", "fee 1;", "fee 1;plank 10;"};
        for (String half : halves) {
            wrongHill(ONE, half, half.length());
            wrongHill(ONE, half + "   ", half.length() + 3);
        }
        String[] laws = {"rent", "lure", "age", "rent 1 if", "rent 1 if not", "rent 1 if (", "rent 1 if (up", "rent 1 if up or", "rent 1 if up and",
            "rent 1 if 1", "rent 1 if load +", "rent 1 if load <", "rent 1 if load > 1 +", "rent 1 if (load > 1", "rent 1;"};
        for (String half : laws) {
            wrongLaw(half, half.length());
            wrongLaw(half + "  ", half.length() + 2);
        }
        String full = "rent 1 if" + repeat(" ", 391);
        wrongLaw(full, 400);
    }

    private static void nothingStays() {
        told("Of a wrong text nothing stays.");
        String good = "plank 88 age 4;purse 0 5;guests 1 4;thing 1 worth 1 in 3;snow 4;step 3;fall 5;thieves 6;fee 7;purse 2 9";
        wrongHill(ONE, good + ";oops", good.length() + 1);
        wrongHill(ONE, good + ";", good.length() + 1);
        SeeSawHill x = of(ONE);
        due("the same without what is wrong", hill(x, good), 2);
        due("stays", x.count(0), 2);
        due("thing of the new plank's house", x.thing(1, 2), 3);
        wrongLaw("rent 60;lure 60;age 60;oops", 23);
        SeeSawHill y = of(ONE);
        illegal("a wrong first law", () -> law(y, "rent 1;rent"));
        due("there is none then", y.count(3), NONE);
        y.sweep();
        illegal("a wrong text", () -> hill(y, "fee 1;"));
        illegal("a wrong law", () -> law(y, "rent 1;"));
        due("what is remembered stays", y.count(14), 1);
    }
}
