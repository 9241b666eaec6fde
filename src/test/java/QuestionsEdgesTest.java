/**
 * Each sentence under the document's 'Terms' from A WEEK on that names a boundary case, by its own words:
 * WEEKS and DRAWS, ACTS, THE LOG, what each question means, UNDONE, THE IMAGE, and which exception comes first.
 */
public final class QuestionsEdgesTest extends Checks {
    public static void main(String[] args) {
        snowfall();
        rents();
        theft();
        firstDraws();
        ageing();
        weekAtMost();
        draw();
        aheadWithoutDraws();
        acts();
        theLog();
        viewAndWell();
        twins();
        best();
        stand();
        heave();
        breaks();
        more();
        cork();
        last();
        match();
        has();
        ask();
        ballast();
        thief();
        guards();
        loot();
        shares();
        rent();
        poor();
        rich();
        heaviest();
        alike();
        trial();
        span();
        led();
        undone();
        textsForget();
        image();
        exceptionsTold();
        throwingChangesNothing();
        sets();
        finish("QuestionsEdgesTest");
    }

    // ---- A WEEK more

    private static SeeSawHill behindWeek(String text, int seed) {
        SeeSawHill x = of(text);
        x.seed(seed);
        x.weeks(1);
        return x;
    }

    private static void snowfall() {
        told("(a) If DRAW modulo 100 is below FALL: SNOW is DRAW modulo 10 more (99 at most); else SNOW is the half, rounded down.");
        for (int modulo : new int[] {0, 1, 49, 98, 99}) {
            int seed = seedOf(0, modulo);
            due("not below " + modulo, behindWeek("plank 400;snow 7;fall " + modulo, seed).count(5), 3);
            due("below " + (modulo + 1), behindWeek("plank 400;snow 7;fall " + (modulo + 1), seed).count(5), 7 + draws(seed, 2)[1] % 10);
        }
        int nine = 1;
        while (draws(nine, 2)[1] % 10 != 9) nine++;
        int none = 1;
        while (draws(none, 2)[1] % 10 != 0) none++;
        due("9 more", behindWeek("snow 0;fall 100", nine).count(5), 9);
        due("0 more", behindWeek("snow 50;fall 100", none).count(5), 50);
        due("98", behindWeek("snow 89;fall 100", nine).count(5), 98);
        due("99", behindWeek("snow 90;fall 100", nine).count(5), 99);
        due("99 at most", behindWeek("snow 91;fall 100", nine).count(5), 99);
        due("99 at most of 99", behindWeek("snow 99;fall 100", nine).count(5), 99);
        int[] snows = {0, 1, 2, 3, 98, 99};
        for (int snow : snows) due("half of " + snow, behindWeek("snow " + snow, 1).count(5), snow / 2);
        due("on each house", behindWeek("plank 400;snow 91;fall 100", nine).house(1, 2), 99);
    }

    private static void rents() {
        told("(b) Each HOUSE, by numbers, of a PLANK that is not BROKEN: PURSE is less by what it PAYS (0 at least).");
        SeeSawHill x = of("plank 400;plank 400;plank 400;purse 0 14;purse 1 15;purse 2 16;purse 3 0;fee 3;plank 10;snow 60");
        x.weeks(1);
        due("14 less 15", x.house(0, 0), 0);
        due("15 less 15", x.house(1, 0), 0);
        due("16 less 15", x.house(2, 0), 1);
        due("0 less 15", x.house(3, 0), 0);
        due("the plank that breaks in it has paid", x.house(6, 0), 85);
        x.weeks(1);
        due("broken pays no more", x.house(6, 0), 85);
        due("nor the second one", x.house(7, 0), 85);
        due("the others do", x.house(4, 0), 70);
        SeeSawHill z = of("plank 10;plank 400;snow 60;fee 1", "rent 7");
        z.weeks(1);
        due("by the law, too", z.house(0, 0), 100 - 5 - 7);
        z.weeks(1);
        due("broken pays nothing by the law", z.house(0, 0), 100 - 5 - 7);
        due("a whole one does", z.house(2, 0), 100 - 24);
        SeeSawHill y = of("plank 400;snow 20;fee 0;thing 30 worth 9 in 1;thieves 100", "rent 1 if load > 19;rent 2 if load > 39;rent 4 if week > 0;rent 8 if aged > 0");
        y.weeks(1);
        due("behind the snow", y.house(0, 0), 100);
        due("ahead of the thief, the week, the age", y.house(1, 0), 98 - 1);
    }

    private static void theft() {
        told("(c) If DRAW modulo 100 is below THIEVES: a thief comes to the HOUSE that LURES by the most");
        for (int modulo : new int[] {0, 1, 49, 98, 99}) {
            int seed = seedOf(1, modulo);
            String text = "plank 400;thing 5 worth 1 in 1;thieves ";
            due("not below " + modulo, behindWeek(text + modulo, seed).count(11), 0);
            due("below " + (modulo + 1), behindWeek(text + (modulo + 1), seed).count(11), 1);
            int third = seedOf(2, modulo);
            due("not below behind snow " + modulo, behindWeek("fall 100;" + text + modulo, third).count(11), 0);
            due("below behind snow " + (modulo + 1), behindWeek("fall 100;" + text + (modulo + 1), third).count(11), 1);
        }
        due("all of it counts", of("plank 400;thieves 100;thing 1 worth 99 in 0;thing 1 worth 50 in 1;thing 1 worth 50 in 1").thief(), 1);

        told("(of several the least; to none, if there is no HOUSE): the THING of the greatest WORTH in it (of several the least) is gone.");
        SeeSawHill x = of("plank 400;plank 400;thieves 100;thing 1 worth 9 in 3;thing 1 worth 4 in 1;thing 1 worth 5 in 1;thing 1 worth 9 in 2");
        due("one", x.weeks(1), 1);
        due("of houses 1, 2, 3 the least, of its things the dearer", x.count(11), 4);
        due("from there", x.log(0, 2), 1);
        due("then of 2 and 3", x.weeks(1), 1);
        due("the least", x.count(11), 4 + 8);
        due("then 3", x.weeks(1), 1);
        due("it is gone", x.count(11), 1 + 4 + 8);
        SeeSawHill y = of("plank 400;thieves 100;thing 9 worth 7 in 1;thing 3 worth 8 in 1;thing 4 worth 8 in 1");
        y.weeks(1);
        due("of several things the least", y.count(11), 2);
        due("no house", of("thieves 100").weeks(60), 0);
        SeeSawHill z = of("plank 400;thieves 100;thing 9 worth 0 in 1;thing 3 worth 0 in 0");
        due("of worth 0", z.weeks(1), 1);
        due("in the least house", z.count(11), 2);
        due("nothing more in it", z.weeks(1), 0);
        due("the other stays", z.count(11), 2);
        SeeSawHill v = of("plank 400;thieves 100;thing 9 worth 60 in 1", "lure 60 if house < 1;lure 1 if house < 1");
        due("an empty house lures him", v.weeks(3), 0);
        due("no row", v.count(13), 0);
        SeeSawHill w = of("plank 10;thieves 100;thing 60 worth 2 in 0;thing 60 worth 1 in 1");
        due("a broken plank's house, too", w.weeks(2), 2);
    }

    private static void firstDraws() {
        told("(The first DRAW of (a) and of (c) is made always.)");
        int[] seeds = new int[4];
        int seed = 1;
        for (int i = 0; i < 4; i++) {
            seeds[i] = seed;
            seed = 1103515245 * seed + 12345;
        }
        String[] two = {"", "plank 400", "plank 400;thieves 100;thing 1 worth 1 in 0", "thieves 100", "plank 10;snow 99"};
        for (String text : two) due("two of '" + text + "'", behindWeek(text, 1).seed(0), seeds[2]);
        String[] three = {"fall 100", "plank 400;fall 100;thieves 100", "plank 400;fall 100;snow 99"};
        for (String text : three) due("three of '" + text + "'", behindWeek(text, 1).seed(0), seeds[3]);
    }

    private static void ageing() {
        told("(d) Each PLANK, by numbers, not BROKEN: AGE is more by what it AGES by (99 at most); if LOAD of both its HOUSES together is above BEARS less AGE then, it is BROKEN.");
        SeeSawHill x = of("plank 31;plank 30;plank 30;thing 30 worth 1 in 0;thing 15 worth 1 in 2;thing 15 worth 1 in 3;thing 30 worth 1 in 5");
        x.weeks(1);
        due("30 on 31 less 1", x.plank(0, 3), 0);
        due("30 of both on 30 less 1", x.plank(1, 3), 1);
        due("30 of one on 30 less 1", x.plank(2, 3), 1);
        due("age of the broken", x.plank(1, 1), 1);
        x.weeks(1);
        due("30 on 31 less 2", x.plank(0, 3), 1);
        due("a broken one ages no more", x.plank(1, 1), 1);
        SeeSawHill y = of("plank 400 age 97;plank 400 age 99;plank 99;plank 98");
        y.weeks(1);
        due("98", y.plank(0, 1), 98);
        due("99", y.plank(1, 1), 99);
        y.weeks(1);
        due("then 99", y.plank(0, 1), 99);
        y.weeks(1);
        due("99 at most", y.plank(0, 1), 99);
        y.weeks(60);
        y.weeks(60);
        due("nothing on 99 less 99", y.plank(2, 3), 0);
        due("nothing on 98 less 99", y.plank(3, 3), 1);
        due("at age 99", y.plank(3, 1), 99);
        SeeSawHill z = of("plank 400 age 38;plank 400 age 39", "age 60");
        z.weeks(1);
        due("38 and 61", z.plank(0, 1), 99);
        due("39 and 61", z.plank(1, 1), 99);
        SeeSawHill v = of("plank 40;thing 30 worth 1 in 0;snow 30;thieves 100");
        v.weeks(1);
        due("behind the thief", v.plank(0, 3), 0);
        SeeSawHill w = of("plank 60;snow 29;guests 0 1", "age 1 if load > 29;age 4 if load > 14;age 8 if aged > 0");
        w.weeks(1);
        due("behind the snow, by the age before", w.plank(0, 1), 1 + 4);
    }

    private static void weekAtMost() {
        told("WEEK is 1 more (9999 at most).");
        SeeSawHill x = of("plank 400;thing 5 worth 1 in 0;fee 0");
        for (int i = 0; i < 166; i++) x.weeks(60);
        due("9960", x.count(4), 9960);
        x.weeks(38);
        due("9998", x.count(4), 9998);
        law(x, "rent 1 if week + 1 > 999 + 999 + 999 + 999 + 999 + 999 + 999 + 999 + 999 + 999 + 9");
        due("not yet", x.house(0, 5), 0);
        x.weeks(1);
        due("9999", x.count(4), 9999);
        due("the law sees it", x.house(0, 5), 1);
        x.weeks(1);
        due("9999 at most", x.count(4), 9999);
        due("ahead, too", x.rent(0, 7), 7);
        x.carry(0, 1);
        due("the log has it", x.log(0, 0), 9999);
    }

    private static void draw() {
        told("DRAW: SEED is 1103515245 times SEED and 12345, as an int that goes round; bits 16 to 30 (SEED 1 at first).");
        // Of SEED 1 the draws are 16838, 5758, 10113, 17515, 31051, 5627.
        SeeSawHill x = of("fall 39");
        due("at first", x.seed(1), 1);
        x.weeks(1);
        due("5758 modulo 10", x.count(5), 8);
        SeeSawHill y = of("fall 38;snow 9");
        y.weeks(1);
        due("16838 modulo 100 is 38", y.count(5), 4);
        SeeSawHill z = of("fall 100");
        z.weeks(2);
        due("and 31051 modulo 10", z.count(5), 9);
        SeeSawHill t = of("plank 99;thing 1 worth 1 in 0;thieves 58");
        due("5758 modulo 100 is 58", t.trial(1, false), 0);
        hill(t, "thieves 59");
        due("below 59", t.trial(1, false), 1);
        int[] seeds = {0, -1, 77, Integer.MIN_VALUE, Integer.MAX_VALUE};
        int[] then = {-740551042, 288979989, 1589938195, 1406932606, -1858503659};
        for (int i = 0; i < seeds.length; i++) due("two draws behind " + seeds[i], behindWeek("", seeds[i]).seed(0), then[i]);
        for (int seed = 1; seed < 40; seed++) {
            int second = 1103515245 * (1103515245 * seed + 12345) + 12345;
            int bits = second >> 16 & 32767;
            due("without the sign's bit, of " + seed, behindWeek("fall 100", seed).count(5), bits % 10);
        }
    }

    private static void aheadWithoutDraws() {
        told("AHEAD by N WEEKS (0 to 100): as so many WEEKS without snow, thieves (SNOW as it is; no DRAWS).");
        SeeSawHill x = of("plank 110;thing 30 worth 9 in 0;snow 20;fall 50;thieves 100;fee 1");
        // Loads 50 and 20: heights 2 and 8, for 110 - 70 = 40 weeks whole.
        due("0", x.ahead(1, 0, false), 8);
        due("0 weeks are paid", x.ahead(1, 0, true), 100);
        due("snow and thing as they are", x.ahead(1, 40, false), 8);
        due("broken", x.ahead(1, 41, false), 0);
        due("100", x.ahead(1, 100, false), 0);
        due("paid for 41 weeks", x.ahead(0, 100, true), 100 - 2 * 41);
        due("no draws", x.seed(1), 1);
        due("nothing stays", x.count(4) + x.count(11) + x.count(10), 0);
        due("snow stays", x.count(5), 20);
        illegal("-1", () -> x.ahead(1, -1, false));
        illegal("101", () -> x.ahead(1, 101, false));
        law(x, "rent 9 if week > 0;rent 4 if aged > 0");
        due("the first week is as now", x.ahead(1, 1, true), 92);
        due("then week and age go on", x.ahead(1, 2, true), 92 - 21);
    }

    // ---- ACTS and THE LOG

    private static void acts() {
        told("ACTS: a THING that is not gone is carried to a HOUSE; GUESTS of a HOUSE are told; a PLANK is PROPPED, or not; a BROKEN PLANK is mended (AGE 0); a HOUSE gives so much of its PURSE to another one; SNOW is swept (0); WEEKS.");
        SeeSawHill x = of("plank 20;plank 400;thing 30 worth 9 in 0;snow 9");
        x.weeks(2);
        due("weeks", x.count(14), 1);
        x.carry(0, 3);
        due("carry", x.count(14), 2);
        x.guests(1, 4);
        due("guests", x.count(14), 3);
        x.prop(1, true);
        due("prop", x.count(14), 4);
        x.prop(1, false);
        due("not propped", x.count(14), 5);
        due("mend", x.mend(0), 1);
        due("mended", x.count(14), 6);
        due("age", x.plank(0, 1), 0);
        x.give(0, 1, 5);
        due("give", x.count(14), 7);
        x.sweep();
        due("sweep", x.count(14), 8);
        due("snow", x.count(5), 0);
        x.seed(5);
        x.image();
        x.trial(5, true);
        x.span(5, true);
        x.view();
        due("nothing else is one", x.count(14), 8);
        SeeSawHill y = of("plank 99;thing 1 worth 1 in 0;thieves 100");
        y.weeks(1);
        refused("gone", y, IllegalStateException.class, 0, () -> y.carry(0, 1));
        refused("not broken", y, IllegalStateException.class, 0, () -> y.mend(0));
    }

    private static void theLog() {
        told("THE LOG: the latest 60 THINGS that were carried (0) or stolen (1): WEEK, the THING, from which HOUSE, to which one (none).");
        SeeSawHill x = of("plank 400;plank 400;thing 1 worth 1 in 0;thing 1 worth 9 in 3;fee 0");
        x.carry(1, 2);
        x.weeks(1);
        for (int i = 0; i < 58; i++) x.carry(0, i % 4);
        due("59", x.count(13), 59);
        due("the 59th ago", x.log(58, 1), 1);
        due("no 60th ago", x.log(59, 1), -2);
        x.carry(0, 1);
        due("60", x.count(13), 60);
        due("the first is the 60th ago", x.log(59, 1), 1);
        hill(x, "thieves 100");
        x.weeks(1);
        due("60 again", x.count(13), 60);
        due("the first is no more", x.led(1, false), 1);
        int[] latest = {1, 1, 2, NONE, 1};
        int[] before = {1, 0, 1, 1, 0};
        for (int what = 0; what < 5; what++) {
            due("the latest is stolen " + what, x.log(0, what), latest[what]);
            due("the one before was carried " + what, x.log(1, what), before[what]);
        }
        due("the oldest then", x.log(59, 0), 1);
        due("its house", x.log(59, 3), 0);
        due("no 61st", x.log(60, 0), -2);
        x.weeks(2);
        due("a thief too many leaves none", x.log(0, 0), 2);
        SeeSawHill y = of("plank 400;thing 1 worth 1 in 0;thing 1 worth 1 in 0");
        y.carry(1, 1);
        for (int i = 0; i < 59; i++) y.carry(0, i % 2);
        y.carry(0, 0);
        y.undo();
        due("undone, the 60th ago is there again", y.log(59, 1), 1);
        due("and the latest is the one before", y.log(0, 3), 0);
        due("60 are there", y.count(13), 60);
        for (int ago = 0; ago < 59; ago++) due("row " + ago + " is as before", y.log(ago, 3), ago % 2);
        due("nothing more to take", x.count(11), 3);
    }

    // ---- How PLANKS stand

    private static void viewAndWell() {
        told("VIEW: HOUSES of a HEIGHT above 5, as bits. WELL: HOUSES of a HEIGHT below 5, as bits.");
        SeeSawHill x = of("plank 400;plank 400;plank 400;plank 400;plank 20;thing 9 worth 1 in 0;thing 10 worth 1 in 2;thing 10 worth 1 in 5;thing 60 worth 1 in 7;thing 60 worth 1 in 8");
        // Heights 5 5, 4 6, 6 4, 10 0, 0 10.
        due("view", x.view(), 8 + 16 + 64 + 512);
        due("well", x.well(), 4 + 32 + 128 + 256);
        x.weeks(1);
        due("view without the broken", x.view(), 8 + 16 + 64);
        due("well with both of it", x.well(), 4 + 32 + 128 + 256 + 512);
        due("nobody", new SeeSawHill().view() + new SeeSawHill().well(), 0);
        due("the view of house 0", of("plank 99;thing 10 worth 1 in 1").view(), 1);
        due("the well of house 0", of("plank 99;thing 10 worth 1 in 0").well(), 1);
        due("level has neither", of("plank 99").view() + of("plank 99").well(), 0);
    }

    private static void twins() {
        told("TWINS: pairs of PLANKS with the same TILT, none BROKEN: how many.");
        due("no plank", new SeeSawHill().twins(), 0);
        due("one", of("plank 99").twins(), 0);
        due("two", of("plank 99;plank 99").twins(), 1);
        due("five", of(repeat("plank 99;", 4) + "plank 99").twins(), 10);
        due("1 and - 1", of("plank 99;plank 99;thing 10 worth 1 in 0;thing 10 worth 1 in 3").twins(), 0);
        due("1 and 1", of("plank 99;plank 99;thing 10 worth 1 in 1;thing 19 worth 1 in 3").twins(), 1);
        due("5 and 5", of("plank 99;plank 99;thing 50 worth 1 in 1;thing 60 worth 1 in 3").twins(), 1);
        SeeSawHill x = of("plank 99;plank 10;plank 99;plank 10;snow 20");
        due("all", x.twins(), 6);
        x.weeks(1);
        due("none broken", x.twins(), 1);
        SeeSawHill y = of("plank 99;plank 99;thing 60 worth 1 in 0");
        due("not the same", y.twins(), 0);
        y.prop(0, true);
        due("propped and level", y.twins(), 1);
    }

    private static void best() {
        told("BEST of a PLANK: the one THING in one of its HOUSES by carrying which to its other HOUSE LOADS of both differ the least (of several the least; none, if they do not differ less by any).");
        due("no thing", of("plank 99;guests 0 3").best(0), NONE);
        due("as much lighter", of("plank 99;thing 10 worth 1 in 0").best(0), NONE);
        due("a little less", of("plank 99;guests 0 1;thing 9 worth 1 in 0;thing 4 worth 1 in 1").best(0), 0);
        due("nine of ten", of("plank 99;thing 9 worth 1 in 0;thing 1 worth 1 in 0").best(0), 0);
        due("one of ten", of("plank 99;thing 1 worth 1 in 0;thing 9 worth 1 in 0").best(0), 0);
        due("the better of both", of("plank 99;thing 1 worth 1 in 0;thing 7 worth 1 in 0;thing 2 worth 1 in 0").best(0), 1);
        due("level already", of("plank 99;thing 4 worth 1 in 0;thing 4 worth 1 in 1").best(0), NONE);
        due("the upper one's makes it worse", of("plank 99;thing 5 worth 1 in 0;guests 1 4").best(0), NONE);
        due("of the second house", of("plank 99;plank 99;thing 1 worth 1 in 1;thing 5 worth 1 in 3;thing 5 worth 1 in 3").best(1), 1);
        SeeSawHill x = of("plank 10;thing 20 worth 9 in 0;thing 11 worth 1 in 0;thing 9 worth 1 in 0;thieves 100");
        due("now", x.best(0), 0);
        x.prop(0, true);
        due("propped", x.best(0), 0);
        x.weeks(1);
        due("broken, and the first is gone", x.plank(0, 3), 1);
        due("of those that are there", x.best(0), 1);
    }

    private static void stand() {
        told("STAND of a PLANK at a told TILT (- 5 to 5): the fewest THINGS in its HOUSES to be carried to the other one of both so that TILT (neither PROPPED nor BROKEN) is that: of several sets the least as bits; none.");
        SeeSawHill x = of("plank 20;plank 99;thing 10 worth 1 in 0;thing 10 worth 1 in 0;thing 10 worth 1 in 1;thing 60 worth 9 in 3;thieves 0");
        // Loads 20 and 10: 2 times what is carried over.
        due("as it is", x.stand(0, -1), 0);
        due("one over", x.stand(0, 1), 1);
        due("two over", x.stand(0, 3), 3);
        due("one back", x.stand(0, -3), 4);
        due("none at 0", x.stand(0, 0), NONE);
        due("none at 5", x.stand(0, 5), NONE);
        due("none at - 5", x.stand(0, -5), NONE);
        due("5 as it is", x.stand(1, 5), 0);
        due("none at 4", x.stand(1, 4), NONE);
        due("- 5, too", x.stand(1, -5), 8);
        due("5 as it is", of("plank 99;thing 60 worth 1 in 1").stand(0, 5), 0);
        illegal("6", () -> x.stand(0, 6));
        illegal("- 6", () -> x.stand(0, -6));
        illegal("the least", () -> x.stand(0, Integer.MIN_VALUE));
        x.prop(0, true);
        due("propped", x.stand(0, 0), NONE);
        due("propped at - 1", x.stand(0, -1), 0);
        x.weeks(1);
        due("broken", x.plank(0, 3), 1);
        due("broken at 3", x.stand(0, 3), 3);
        hill(x, "thieves 100");
        x.weeks(1);
        due("what is gone cannot be carried", x.stand(1, -5), NONE);
        due("without things", x.stand(1, 0), 0);
        SeeSawHill y = of("plank 99;thing 6 worth 1 in 0;thing 2 worth 1 in 0;thing 4 worth 1 in 0;thing 12 worth 1 in 0;step 4");
        // Load 24: level by 11 to 13 over: 12 alone (8) is fewer than 6, 2, 4 (7).
        due("fewest ahead of least", y.stand(0, 0), 8);
        SeeSawHill z = of("plank 99;thing 5 worth 1 in 0;thing 3 worth 1 in 0;thing 4 worth 1 in 0;thing 4 worth 1 in 0;step 1");
        // Load 16: level by 8 over: 5 and 3, or 4 and 4.
        due("of several the least as bits", z.stand(0, 0), 3);
        SeeSawHill w = of("plank 99;plank 99;plank 99;thing 5 worth 1 in 0;thing 10 worth 1 in 2;thing 10 worth 1 in 3;thing 10 worth 1 in 4;step 10");
        due("from the first house of another plank", w.stand(1, 2), 2);
        due("from its second one", w.stand(1, -2), 4);
        due("of the third plank", w.stand(2, 1), 8);
    }

    private static void heave() {
        told("HEAVE likewise: the set of the least WEIGHT together (of several the least as bits); how much; none.");
        SeeSawHill y = of("plank 99;thing 6 worth 1 in 0;thing 2 worth 1 in 0;thing 3 worth 1 in 0;thing 13 worth 1 in 0;step 4");
        // Load 24: level by 11 to 13 over: 6, 2 and 3 are lighter than 13.
        due("lightest", y.heave(0, 0, false), 7);
        due("how much", y.heave(0, 0, true), 11);
        due("fewest is another", y.stand(0, 0), 8);
        due("as it is", y.heave(0, -5, false), 0);
        due("nothing to carry", y.heave(0, -5, true), 0);
        SeeSawHill z = of("plank 99;thing 4 worth 1 in 0;thing 5 worth 1 in 0;thing 3 worth 1 in 0;thing 8 worth 1 in 0;thing 4 worth 1 in 1;step 1");
        // Loads 20 and 4: level by 8 over, 5 and 3 (6) or 8 (8); 4 and 4 is of both houses.
        due("of several the least as bits", z.heave(0, 0, false), 6);
        due("of weight 8", z.heave(0, 0, true), 8);
        due("none", z.heave(0, 1, false), NONE);
        due("none, how much", z.heave(0, 1, true), NONE);
        illegal("6", () -> z.heave(0, 6, true));
        illegal("- 6", () -> z.heave(0, -6, false));
        z.prop(0, true);
        due("propped", z.heave(0, -5, true), 0);
        SeeSawHill x = of("plank 20;thing 30 worth 1 in 0");
        x.weeks(1);
        due("broken", x.heave(0, 3, true), 30);
        due("broken, as bits", x.heave(0, 3, false), 1);
    }

    private static void breaks() {
        told("BREAKS of a PLANK: in how many WEEKS AHEAD (1 to 100) it is BROKEN; none (also, if it is so).");
        due("1", of("plank 30;guests 0 6").breaks(0), 1);
        due("2", of("plank 31;guests 0 6").breaks(0), 2);
        due("above its strength already", of("plank 10;snow 99").breaks(0), 1);
        due("98 by age alone", of("plank 98").breaks(0), 99);
        due("99 never", of("plank 99").breaks(0), NONE);
        due("99 with 1", of("plank 99;thing 1 worth 0 in 0").breaks(0), 99);
        due("100 with 1 never", of("plank 100;thing 1 worth 0 in 0").breaks(0), NONE);
        due("snow as it is", of("plank 50;snow 20").breaks(0), 11);
        due("no thief helps", of("plank 50;thing 40 worth 9 in 0;thieves 100").breaks(0), 11);
        SeeSawHill x = of("plank 10;snow 20");
        x.weeks(1);
        due("it is so", x.breaks(0), NONE);
        x.mend(0);
        due("mended", x.breaks(0), 1);
        SeeSawHill y = of("plank 40;plank 30;snow 5", "age 4 if week > 2;age 4 if aged > 20");
        // Both age 1 2 3 8 13 18 23 32: the one breaks above 30, the other one above 20.
        due("by the weeks ahead", y.breaks(0), 8);
        due("asked anew", y.breaks(0), 8);
        due("and of another", y.breaks(1), 7);
        y.guests(0, 4);
        due("behind an act", y.breaks(0), 5);
        y.undo();
        due("undone", y.breaks(0), 8);
    }

    private static void more() {
        told("MORE of a PLANK: how much LOAD more it would bear now (below 0 too; none, if BROKEN).");
        due("all", of("plank 400").more(0), 400);
        due("less age", of("plank 400 age 99").more(0), 301);
        due("1", of("plank 31;guests 0 3;guests 1 3").more(0), 1);
        due("0", of("plank 30;guests 0 3;guests 1 3").more(0), 0);
        due("- 1", of("plank 29;guests 0 3;guests 1 3").more(0), -1);
        due("the least", of("plank 10 age 99;snow 99;guests 0 9;guests 1 9" + repeat(";thing 60 worth 1 in 0", 10)).more(0), 10 - 99 - 198 - 90 - 600);
        SeeSawHill x = of("plank 29;guests 0 3;guests 1 3");
        x.weeks(1);
        due("broken", x.more(0), -10000);
        x.mend(0);
        due("mended", x.more(0), -1);
    }

    private static void cork() {
        told("CORK of a HOUSE: HEIGHT it would have, if all THINGS and GUESTS of it were gone.");
        SeeSawHill x = of("plank 400;guests 0 2;thing 60 worth 1 in 0;thing 30 worth 1 in 1;guests 1 1;snow 9");
        due("of the lower one", x.house(0, 8), 8);
        due("of the upper one", x.house(1, 8), 10);
        due("nothing in both", of("plank 99;snow 50").house(1, 8), 5);
        due("at most", of("plank 99;thing 60 worth 1 in 1").house(0, 8), 10);
        due("the only thing", of("plank 99;thing 60 worth 1 in 1").house(1, 8), 5);
        due("guests alone", of("plank 99;guests 1 9;guests 0 2").house(1, 8), 6);
        x.prop(0, true);
        due("propped", x.house(0, 8), 5);
        SeeSawHill z = of("plank 99;plank 99;thing 20 worth 1 in 1;thing 30 worth 1 in 3");
        z.prop(0, true);
        due("the first propped, its houses", z.house(1, 8), 5);
        due("not the other's", z.house(2, 8), 8);
        z.prop(0, false);
        z.prop(1, true);
        due("the second propped", z.house(2, 8), 5);
        due("the other not", z.house(0, 8), 7);
        SeeSawHill y = of("plank 10;guests 1 9");
        y.weeks(1);
        due("broken", y.house(0, 8), 0);
        due("broken, the other", y.house(1, 8), 0);
    }

    private static void last() {
        told("LAST: of PLANKS that are not BROKEN the one that BREAKS the latest (never, in 100 WEEKS, is later than all; of several the least; none).");
        due("no plank", new SeeSawHill().last(), NONE);
        due("one", of("plank 10").last(), 0);
        due("the latest", of("plank 20;plank 40;plank 30").last(), 1);
        due("never is later", of("plank 98;plank 99;plank 98").last(), 1);
        due("of several that never do", of("plank 98;plank 400;plank 99").last(), 1);
        due("of several at once", of("plank 20;plank 30;plank 30;plank 25").last(), 1);
        SeeSawHill x = of("plank 50;plank 40;plank 60;thing 60 worth 1 in 0;thing 1 worth 1 in 4");
        x.weeks(1);
        due("broken", x.count(10), 1);
        due("of the others", x.last(), 2);
        SeeSawHill y = of("plank 10;plank 10;snow 60");
        y.weeks(1);
        due("all broken", y.last(), NONE);
        y.mend(1);
        due("one mended", y.last(), 1);
    }

    private static void match() {
        told("MATCH: all HOUSES of a told set put two by two, so that by how much LOADS of each two differ is the least all together: how much;");
        SeeSawHill x = of(repeat("plank 99;", 5) + "guests 0 9;guests 1 1;guests 2 8;guests 3 2;guests 4 7;guests 5 3;guests 6 6;guests 7 4;guests 8 5");
        due("eight", x.match(255, NONE), 5 * (1 + 1 + 1 + 1));
        due("two", x.match(3, NONE), 40);
        due("nobody", x.match(0, NONE), 0);

        told("with whom one is in the first such way (the least of them with the least that can be, then the least of the others, ..); none, if they are odd in number, or more than 8.");
        int[] with = {2, 3, 0, 1, 6, 7, 4, 5};
        for (int house = 0; house < 8; house++) due("of " + house, x.match(255, house), with[house]);
        due("one alone", x.match(1, NONE), NONE);
        due("one alone, with whom", x.match(1, 0), NONE);
        due("seven", x.match(127, NONE), NONE);
        due("nine", x.match(511, NONE), NONE);
        due("ten", x.match(1023, NONE), NONE);
        due("ten, with whom", x.match(1023, 0), NONE);
        due("eight others", x.match(1023 - 3, NONE), 5 * (2 + 1 + 1 + 1));
        SeeSawHill y = of(repeat("plank 99;", 4) + "fee 1");
        int[] first = {1, 0, 3, 2, 5, 4, 7, 6};
        for (int house = 0; house < 8; house++) due("all alike, of " + house, y.match(255, house), first[house]);
        SeeSawHill z = of("plank 99;plank 99;guests 0 1;guests 1 2;guests 2 3;guests 3 4");
        // (0 1)(2 3) 10, (0 2)(1 3) 20, (0 3)(1 2) 20.
        due("of 0", z.match(15, 0), 1);
        SeeSawHill w = of("plank 99;plank 99;guests 0 1;guests 1 5;guests 2 1;guests 3 1");
        // (0 1)(2 3), (0 2)(1 3), (0 3)(1 2): all 20.
        due("of 0 the least", w.match(15, 0), 1);
        due("of 3", w.match(15, 3), 2);
        SeeSawHill v = of(repeat("plank 99;", 3) + "guests 1 9;guests 3 4;guests 5 9");
        // 0 45 0 20 0 45: 1 with 5, of the others 0 with 2, 3 with 4.
        due("then the others", v.match(63, 0), 2);
        due("of 3, too", v.match(63, 3), 4);
        due("of 5", v.match(63, 5), 1);
        SeeSawHill u = of("plank 99;plank 99;thing 1 worth 1 in 1");
        due("with none that is not of the set", u.match(9, 0), 3);
        due("nor below it", u.match(12, 3), 2);
        SeeSawHill t = of("plank 99;plank 99;thing 1 worth 1 in 0;thing 2 worth 1 in 2;thing 2 worth 1 in 3");
        due("never with itself", t.match(15, 0), 1);
    }

    // ---- What somebody has

    /** Things of 10 and 20 are gone, 30 in the second house; all by 10. */
    private static SeeSawHill twoGone() {
        SeeSawHill x = of("plank 300;thing 10 worth 9 in 0;thing 20 worth 8 in 0;thing 30 worth 1 in 1;thieves 100");
        x.weeks(2);
        return x;
    }

    private static void has() {
        told("HAS: told is which HEIGHT (0 to 10) the first HOUSE of a PLANK had with so many GUESTS (0 to 20) more in it than now, when an unknown set of the THINGS that are gone was in it, too (neither PROPPED nor BROKEN): sets of THINGS that are gone that fit: how many;");
        SeeSawHill x = twoGone();
        due("gone", x.count(11), 3);
        due("nothing told", has(x, 0, false), 4);
        due("without any in it", has(x, 0, false, 0, 8), 1);
        due("with both in it", has(x, 0, false, 0, 5), 1);
        due("height 0", has(x, 0, false, 12, 0), 2);
        due("height 0 of all", has(x, 0, false, 20, 0), 4);
        due("20 guests", has(x, 0, false, 20, 1), 0);
        due("15 guests", has(x, 0, false, 15, 0), 4 - 1);
        due("height 10", has(x, 0, false, 0, 10), 0);
        due("two that agree", has(x, 0, false, 0, 7, 2, 6), 1);
        due("two that do not", has(x, 0, false, 0, 7, 2, 7), 0);
        illegal("height 11", () -> has(x, 0, false, 0, 11));
        illegal("height 255", () -> has(x, 0, false, 0, 255));
        illegal("21 guests", () -> has(x, 0, false, 21, 0));
        illegal("128 guests", () -> has(x, 0, false, 128, 0));
        illegal("the last of many", () -> has(x, 0, false, 0, 5, 0, 5, 0, 5, 0, 11));
        x.guests(0, 2);
        due("more than now", has(x, 0, false, 0, 8), 0);
        due("with those of now", has(x, 0, false, 0, 7), 1);
        x.prop(0, true);
        due("propped", has(x, 0, false, 0, 7), 1);
        SeeSawHill y = of("plank 20;thing 10 worth 9 in 0;thing 30 worth 1 in 1;thieves 100");
        y.weeks(1);
        due("broken", y.plank(0, 3), 1);
        due("as if it were not", has(y, 0, false, 0, 8), 1);
        SeeSawHill w = of("plank 99;plank 99;thing 10 worth 9 in 0;thing 20 worth 1 in 3;thing 20 worth 8 in 0;thieves 100");
        w.weeks(2);
        due("the first and the third are gone", w.count(11), 5);
        due("sets of these alone", has(w, 0, false), 4);
        due("of another plank", has(w, 1, false, 0, 7), 1);
        due("of another plank, the third in it", has(w, 1, true, 0, 5), 4);
        due("of another plank, both", has(w, 1, true, 0, 4), 5);
        SeeSawHill v = of("plank 400" + repeat(";thing 1 worth 1 in 0", 10) + ";thieves 100");
        v.weeks(10);
        due("all sets of ten", has(v, 0, false), 1024);
        due("of four things at most", has(v, 0, false, 1, 5), 1 + 10 + 45 + 120 + 210);
        due("none gone: the empty set", has(of("plank 99"), 0, false, 0, 5), 1);
        due("none gone, another height", has(of("plank 99"), 0, false, 0, 4), 0);

        told("SURE: THINGS in all of these, as bits (0 without).");
        SeeSawHill z = twoGone();
        due("the first", has(z, 0, true, 0, 7), 1);
        due("the second", has(z, 0, true, 0, 6), 2);
        due("both", has(z, 0, true, 0, 5), 3);
        due("neither", has(z, 0, true, 0, 8), 0);
        due("of several", has(z, 0, true, 15, 0), 0);
        due("in both of two", has(z, 0, true, 12, 0), 2);
        due("no set", has(z, 0, true, 0, 0), 0);
        due("no thing at all", has(of("plank 99"), 0, true), 0);
    }

    private static void ask() {
        told("ASK: how many GUESTS more (0 to 20) to ask with, so that the greatest part of one HEIGHT of those that fit is the least (of several the least; none with fewer than two).");
        SeeSawHill x = twoGone();
        due("all apart without guests", ask(x, 0), 0);
        due("one fits", ask(x, 0, 0, 7), NONE);
        due("none fits", ask(x, 0, 0, 0), NONE);
        due("nothing gone", ask(of("plank 99"), 0), NONE);
        // 12 guests tell 0 of the sets of 20 and 30: without any they are two heights.
        due("two fit", ask(x, 0, 12, 0), 0);
        SeeSawHill z = of("plank 400;thing 1 worth 99 in 0;thing 60 worth 0 in 1;thing 1 worth 0 in 1;step 40;thieves 100");
        z.weeks(1);
        // 61 and 60 by 40: parted where 40 lies between them, 20 guests being 100: - 39 and - 40.
        due("20", ask(z, 0), 20);
        SeeSawHill y = of("plank 400;thing 1 worth 99 in 0;thing 60 worth 0 in 1;thing 2 worth 0 in 1;step 40;thieves 100");
        y.weeks(1);
        // 62 and 61 less 5 for each guest are never two heights: of all that are as bad the least.
        due("none parts them", ask(y, 0), 0);
        SeeSawHill v = of("plank 400;thing 10 worth 99 in 0;thing 10 worth 98 in 0;thing 19 worth 0 in 1;thieves 100");
        v.weeks(2);
        // 19, 9, 9, - 1 by 10: 1 0 0 0; with 2 guests 9, - 1, - 1, - 11: 0 0 0 - 1; with 4: - 1, - 11, - 11, - 21: 1 2 1.
        due("the greatest part is the least", ask(v, 0), 4);
        due("asked anew", ask(v, 0), 4);
        SeeSawHill t = of("plank 400;thing 3 worth 9 in 0;thieves 100;step 1;guests 1 9");
        t.weeks(1);
        // 45 and 42 less 5 for each guest: all at the top up to 8 guests, where 5 and 2 are two heights.
        due("behind many at height 10", ask(t, 0), 8);
        SeeSawHill b = of("plank 400;thing 60 worth 0 in 0;thing 60 worth 0 in 0;thing 44 worth 0 in 0;thing 1 worth 9 in 0;thieves 100;step 40");
        b.weeks(1);
        // - 164 and - 165 by 40: parted by 7 guests, - 199 and - 200.
        due("at height 0", ask(b, 0), 7);
        due("at height 0, asked anew", ask(b, 0), 7);
        SeeSawHill a = of("plank 400;thieves 100;step 1;guests 0 9" + repeat(";thing 1 worth 1 in 0", 10));
        a.weeks(10);
        due("1024 that are never parted", ask(a, 0), 0);
        illegal("odd", () -> ask(v, 0, 1));
        illegal("21 guests", () -> ask(v, 0, 21, 1));
        illegal("height 11", () -> ask(v, 0, 20, 11));
    }

    private static void ballast() {
        told("BALLAST of a PLANK: each of both HOUSES takes in 0, 1 or 2 STEPS of weight, unseen by the other one; one has its HEIGHT then (neither PROPPED nor BROKEN) less the STEPS it took in: pairs of choices");
        // Weight taken in never lifts the one that takes it: neither changes from 0 and 0, bit 0, alone.
        String[] hills = {"plank 99", "plank 99;thing 60 worth 1 in 0", "plank 99;thing 60 worth 1 in 1", "plank 99;thing 9 worth 1 in 1",
            "plank 99;thing 40 worth 1 in 1;step 1", "plank 400;thing 60 worth 1 in 1;step 40", "plank 99;thing 15 worth 1 in 0;step 10"};
        for (String text : hills) due("ballast of " + text, of(text).ballast(0), 1);
        SeeSawHill x = of("plank 10;snow 30");
        x.prop(0, true);
        due("propped", x.ballast(0), 1);
        x.weeks(1);
        due("broken", x.ballast(0), 1);
    }

    // ---- Thieves

    private static void thief() {
        told("THIEF: the HOUSE a thief would come to now; none.");
        due("no house", new SeeSawHill().thief(), NONE);
        due("of equal ones the least", of("plank 99;plank 99").thief(), 0);
        due("by worth", of("plank 99;plank 99;thing 1 worth 1 in 3").thief(), 3);
        due("by law", of("plank 99;plank 99;thing 1 worth 5 in 3", "lure 6 if house + house > 2 and house < 3").thief(), 2);
        due("as much by law", of("plank 99;plank 99;thing 1 worth 5 in 3", "lure 5 if house < 2 and house > 0").thief(), 1);
        SeeSawHill x = of("plank 10;snow 60;thing 1 worth 1 in 1");
        x.weeks(1);
        due("of a broken plank", x.thief(), 1);
    }

    private static void guards() {
        told("GUARDS for N thieves (0 to 8): the fewest HOUSES (3 at most) to be guarded, so that N thieves, one behind another, each to the HOUSE that is not guarded and LURES by the most (of several the least; asked anew of each, all as now but for what is gone), take nothing of a WORTH above W (0 to 99): of several sets the least as bits; none, if 3 are not enough.");
        SeeSawHill x = of("plank 99;plank 99;thing 1 worth 9 in 0;thing 1 worth 8 in 1;thing 1 worth 7 in 2;thing 1 worth 6 in 3");
        due("no thief", x.guards(0, 0), 0);
        due("nothing above 9", x.guards(1, 9), 0);
        due("not 9", x.guards(1, 8), 1);
        due("not 8", x.guards(1, 7), 3);
        due("not 7", x.guards(1, 6), 7);
        due("four would be needed", x.guards(1, 5), NONE);
        due("the second takes 8", x.guards(2, 8), 1);
        due("8 thieves, 9", x.guards(8, 9), 0);
        due("8 thieves, 99", x.guards(8, 99), 0);
        due("8 thieves, 6", x.guards(8, 6), 7);
        due("8 thieves, 0", x.guards(8, 0), NONE);
        illegal("-1 thieves", () -> x.guards(-1, 0));
        illegal("9 thieves", () -> x.guards(9, 0));
        illegal("worth -1", () -> x.guards(0, -1));
        illegal("worth 100", () -> x.guards(0, 100));
        SeeSawHill y = of("plank 99;thing 1 worth 99 in 0;thing 1 worth 99 in 1");
        due("all guarded: none comes", y.guards(8, 98), 3);
        due("worth 99", y.guards(8, 99), 0);
        due("no house", new SeeSawHill().guards(8, 0), 0);
        due("nothing of worth", of("plank 99;thing 1 worth 0 in 0").guards(8, 0), 0);
        SeeSawHill z = of("plank 99;plank 99;thing 1 worth 5 in 0;thing 1 worth 4 in 0;thing 1 worth 9 in 1;thing 1 worth 9 in 3");
        // Houses 0, 1, 3 lure by 9 each: with house 0 guarded, 1 is next; nothing but guarding 1 and 3 keeps the nines.
        due("the first takes 5", z.guards(1, 5), 0);
        due("the second would take 9", z.guards(2, 8), 2 + 8);
        SeeSawHill v = of("plank 99;thing 11 worth 9 in 0;thing 1 worth 8 in 1", "lure 60 if load > 10;lure 30 if load < 1;lure 25 if house > 0 and height < 5");
        // Behind the first thief house 0 is empty and lures by 30, house 1 by 8: he takes nothing there.
        due("loads go with what is gone", v.guards(8, 9), 0);
        due("and so does loot", v.loot(10), 9);
        SeeSawHill s = of("plank 99;thing 11 worth 9 in 0;thing 1 worth 8 in 1", "lure 60 if load > 10");
        due("a lure goes with what is gone", s.loot(2), 17);
        due("so both must be guarded", s.guards(2, 7), 3);
        due("and one against a single one", s.guards(1, 8), 1);
        SeeSawHill w = of("plank 99;plank 99;thing 1 worth 9 in 2", "lure 60 if house < 1;lure 50 if house > 0 and house < 2");
        due("empty houses lure them all", w.guards(8, 0), 0);
        SeeSawHill u = of("plank 99;plank 99;plank 99;thing 1 worth 50 in 4;thing 1 worth 50 in 1;thing 1 worth 50 in 2", "lure 60 if house > 4;lure 55 if house < 1 and not level");
        due("safe by the lure of one", u.guards(8, 0), 0);
    }

    private static void loot() {
        told("LOOT of N thieves (0 to 10) now, one behind another likewise (nobody guards): WORTH of all they take together.");
        StringBuilder text = new StringBuilder("plank 99");
        for (int thing = 0; thing < 10; thing++) text.append(";thing 1 worth ").append(90 + thing).append(" in ").append(thing % 2);
        SeeSawHill x = of(text.toString());
        due("0", x.loot(0), 0);
        due("1", x.loot(1), 99);
        due("9", x.loot(9), 945 - 90);
        due("10", x.loot(10), 945);
        illegal("-1", () -> x.loot(-1));
        illegal("11", () -> x.loot(11));
        due("nothing is gone", x.count(11), 0);
        due("no house", new SeeSawHill().loot(10), 0);
        due("thieves 0 all the same", of("plank 99;thing 1 worth 7 in 0;thieves 0").loot(2), 7);
    }

    // ---- PURSES and neighbours

    private static void shares() {
        told("SHARE of a HOUSE in the WELLS: what it is below 5, in hundredths of all HOUSES together, rounded down (0 without).");
        SeeSawHill x = of("plank 99;plank 99;plank 99;thing 10 worth 1 in 0;thing 20 worth 1 in 2;thing 30 worth 1 in 4");
        int[] shares = {16, 0, 33, 0, 50, 0};
        for (int house = 0; house < 6; house++) due("share " + house, x.house(house, 7), shares[house]);
        due("all", of("plank 99;thing 10 worth 1 in 1").house(1, 7), 100);
        due("nobody is below", of("plank 99").house(0, 7), 0);
        SeeSawHill y = of("plank 10;plank 400;snow 60;thing 10 worth 1 in 3");
        y.weeks(1);
        due("of a broken one", y.house(0, 7), 45);
        due("its neighbour", y.house(1, 7), 45);
        due("the other", y.house(3, 7), 9);
        due("above 5", y.house(2, 7), 0);
    }

    private static void rent() {
        told("RENT of N WEEKS (0 to 100) AHEAD of a HOUSE: by how much PURSE is less.");
        SeeSawHill x = of("plank 400;plank 22;fee 1;snow 10;purse 2 999");
        due("0", x.rent(0, 0), 0);
        due("1", x.rent(0, 1), 5);
        due("to the last", x.rent(0, 20), 100);
        due("no more than there is", x.rent(0, 21), 100);
        due("100", x.rent(0, 100), 100);
        due("until it breaks", x.rent(2, 100), 15);
        due("100 weeks of 5", of("plank 400;fee 1;purse 0 501").rent(0, 100), 500);
        illegal("-1", () -> x.rent(0, -1));
        illegal("101", () -> x.rent(0, 101));
        due("nothing is paid", x.count(12), 1299);
    }

    private static void poor() {
        told("POOR: the first N (0 to 100) AHEAD by which some PURSE is 0; none.");
        due("now", of("plank 99;purse 1 0").poor(), 0);
        due("1", of("plank 400;purse 1 15").poor(), 1);
        due("2", of("plank 400;purse 1 16").poor(), 2);
        due("100", of("plank 400;fee 1;purse 0 500;purse 1 501").poor(), 100);
        due("not 101", of("plank 400;fee 1;purse 0 501;purse 1 501").poor(), NONE);
        due("no house", new SeeSawHill().poor(), NONE);
        due("no fee", of("plank 400;fee 0").poor(), NONE);
        due("broken ahead of it", of("plank 22;fee 1;snow 10;purse 1 16;purse 0 16").poor(), NONE);
        due("just ahead of breaking", of("plank 22;fee 1;snow 10;purse 1 15;purse 0 16").poor(), 3);
        due("by the weeks ahead", of("plank 400;fee 0", "rent 50 if week > 4").poor(), 7);
        due("by the ages ahead", of("plank 400 age 5;fee 0", "rent 50 if aged > 6").poor(), 4);
        due("of the last plank", of("plank 400;plank 400;fee 0", "rent 50 if house > 2").poor(), 2);
        due("of five planks", of(repeat("plank 400;", 5) + "purse 9 30").poor(), 2);
        SeeSawHill x = of("plank 10;snow 60;purse 1 15;fee 3");
        x.weeks(1);
        due("of a broken plank", x.poor(), 0);
    }

    private static void rich() {
        told("RICH: the HOUSE of the most PURSE and WORTH of THINGS in it (of several the least; none).");
        due("none", new SeeSawHill().rich(), NONE);
        due("of equal ones the least", of("plank 99;plank 99").rich(), 0);
        due("purse and worth", of("plank 99;purse 0 50;thing 1 worth 50 in 0;purse 1 101").rich(), 1);
        due("as much", of("plank 99;purse 0 50;thing 1 worth 50 in 0").rich(), 0);
        due("all things of it", of("plank 99;thing 1 worth 50 in 0;thing 1 worth 30 in 1;thing 1 worth 21 in 1").rich(), 1);
        due("with nothing", of("plank 99;purse 0 0;purse 1 0").rich(), 0);
        SeeSawHill x = of("plank 99;thing 1 worth 50 in 1;thieves 100;fee 0");
        due("now", x.rich(), 1);
        x.weeks(1);
        due("gone counts no more", x.rich(), 0);
    }

    private static void heaviest() {
        told("HEAVIEST: the THING of the most WEIGHT that is not gone (of several the least; none).");
        due("none", new SeeSawHill().heaviest(), NONE);
        due("no thing", of("plank 99").heaviest(), NONE);
        due("one of 1", of("plank 99;thing 1 worth 1 in 0").heaviest(), 0);
        due("of several the least", of("plank 99;thing 1 worth 1 in 0;thing 60 worth 1 in 0;thing 60 worth 1 in 1").heaviest(), 1);
        SeeSawHill x = of("plank 99;thing 60 worth 9 in 0;thing 1 worth 1 in 0;thieves 100");
        due("now", x.heaviest(), 0);
        x.weeks(1);
        due("not gone", x.heaviest(), 1);
        x.weeks(1);
        due("all gone", x.heaviest(), NONE);
    }

    private static void alike() {
        told("ALIKE: pairs of HOUSES of the same LOAD and HEIGHT: how many.");
        due("none", new SeeSawHill().alike(), 0);
        due("two", of("plank 99").alike(), 1);
        due("ten", of(repeat("plank 99;", 4) + "plank 99").alike(), 45);
        due("the same height, another load", of("plank 99;thing 9 worth 1 in 0").alike(), 0);
        due("the same load, another height", of("plank 99;plank 99;thing 20 worth 1 in 0;thing 20 worth 1 in 2;thing 50 worth 1 in 1").alike(), 0);
        due("across planks", of("plank 99;plank 99;thing 20 worth 1 in 0;thing 20 worth 1 in 3").alike(), 2);
        SeeSawHill x = of("plank 10;plank 20;snow 30;thing 10 worth 1 in 0");
        x.weeks(1);
        due("broken are of height 0", x.alike(), 3);
    }

    // ---- Trials

    private static void trial() {
        told("TRIAL of N WEEKS (0 to 60) from now (draws, too; nothing stays): THINGS gone then; PLANKS BROKEN then, as bits.");
        SeeSawHill x = of("plank 400;plank 40;plank 12;thing 9 worth 9 in 0;thing 1 worth 8 in 0;thieves 100");
        due("0", x.trial(0, false), 0);
        due("1", x.trial(1, false), 1);
        due("2", x.trial(2, false), 2);
        due("60", x.trial(60, false), 2);
        due("12 weeks", x.trial(12, true), 0);
        due("13 weeks", x.trial(13, true), 4);
        due("41 weeks", x.trial(41, true), 6);
        due("60 weeks", x.trial(60, true), 6);
        illegal("-1", () -> x.trial(-1, false));
        illegal("61", () -> x.trial(61, false));
        due("nothing stays", x.count(4) + x.count(10) + x.count(11) + x.count(13) + x.count(14), 0);
        due("seed stays", x.seed(1), 1);
        x.weeks(1);
        due("gone then: those before, too", x.trial(0, false), 1);
        due("and one more", x.trial(1, false), 2);
        x.weeks(12);
        due("broken then: those before, too", x.trial(0, true), 4);
        SeeSawHill y = of("plank 400;thing 1 worth 1 in 0;thieves 59");
        due("5758 is below 59", y.trial(1, false), 1);
        hill(y, "thieves 58");
        due("not below 58", y.trial(1, false), 0);
        y.seed(seedOf(1, 57));
        due("from the seed of now", y.trial(1, false), 1);
        due("an empty hill", new SeeSawHill().trial(60, true), 0);
    }

    private static void span() {
        told("SPAN: the fewest and the most THINGS gone so from SEED 1, 2, .. 6.");
        // The second draw modulo 100 of each of these seeds, and of those beside them.
        int[] modulo = new int[8];
        for (int seed = 0; seed < 8; seed++) modulo[seed] = draws(seed, 2)[1] % 100;
        int least = 100;
        int most = -1;
        for (int seed = 1; seed <= 6; seed++) {
            least = Math.min(least, modulo[seed]);
            most = Math.max(most, modulo[seed]);
        }
        String text = "plank 400;thing 1 worth 1 in 0;thieves ";
        due("no seed takes it", of(text + least).span(1, true), 0);
        due("one does", of(text + (least + 1)).span(1, true), 1);
        due("another does not", of(text + (least + 1)).span(1, false), 0);
        due("all but one do", of(text + most).span(1, false), 0);
        due("all do", of(text + (most + 1)).span(1, false), 1);
        SeeSawHill x = of("plank 400;thing 1 worth 1 in 0;thing 1 worth 2 in 1;thieves 100");
        due("0 weeks", x.span(0, true), 0);
        due("60 weeks", x.span(60, false), 2);
        illegal("-1", () -> x.span(-1, false));
        illegal("61", () -> x.span(61, true));
        x.seed(99);
        x.weeks(1);
        due("those before, too", x.span(0, false), 1);
        int seed = x.seed(7);
        x.seed(seed);
        x.span(9, true);
        due("seed stays", x.seed(1), seed);
        due("nothing stays", x.count(11), 2);
        due("nor a row", x.count(13), 1);
        for (int edge = 1; edge <= 6; edge += 5) spanOfSeed(edge);
    }

    /** A law and hill by which this seed alone takes nothing, or it alone takes something, over some weeks. */
    private static void spanOfSeed(int seed) {
        for (int thieves = 1; thieves < 100; thieves++) {
            for (int weeks = 1; weeks < 6; weeks++) {
                int[] gone = new int[7];
                for (int each = 1; each <= 6; each++) {
                    int[] draws = draws(each, 2 * weeks);
                    for (int week = 0; week < weeks; week++) gone[each] += draws[2 * week + 1] % 100 < thieves ? 1 : 0;
                }
                int others = 0;
                for (int each = 1; each <= 6; each++) if (each != seed) others = Math.max(others, gone[each]);
                if (gone[seed] <= others) continue;
                SeeSawHill x = of("plank 400;thieves " + thieves + repeat(";thing 1 worth 1 in 0", 6));
                due("seed " + seed + " alone takes the most", x.span(weeks, true), gone[seed]);
                return;
            }
        }
        due("found a span of seed " + seed, false, true);
    }

    private static void led() {
        told("LED: how many rows of THE LOG are of a THING; the WEEK of the latest (none).");
        SeeSawHill x = of("plank 400;thing 1 worth 1 in 0;thing 1 worth 2 in 1;fee 0");
        due("none", x.led(0, false), 0);
        due("no week", x.led(0, true), NONE);
        x.carry(0, 1);
        x.weeks(2);
        x.carry(0, 0);
        x.carry(1, 0);
        due("two", x.led(0, false), 2);
        due("its latest", x.led(0, true), 2);
        due("one", x.led(1, false), 1);
        hill(x, "thieves 100");
        x.weeks(1);
        due("stolen counts", x.led(1, false), 2);
        due("its week", x.led(1, true), 2);
        due("not of another's latest", ledOfTwo(), 0);
        outOfBounds("no such thing", () -> x.led(2, false));
        outOfBounds("none", () -> x.led(-1, true));
    }

    private static int ledOfTwo() {
        SeeSawHill x = of("plank 400;thing 1 worth 1 in 0;thing 1 worth 2 in 1");
        x.carry(0, 1);
        x.weeks(3);
        x.carry(1, 0);
        return x.led(0, true);
    }

    // ---- UNDONE, THE IMAGE

    private static void undone() {
        told("UNDONE: the latest ACT not undone yet (12 are remembered; WEEKS of one call are one): all is as ahead of it (but for the TAPE, fault(), THE IMAGE).");
        SeeSawHill x = of("plank 400;plank 50;thing 45 worth 1 in 2;thing 9 worth 2 in 0;snow 9;fall 50;thieves 50", "lure 60 if house > 2");
        String[] states = new String[14];
        Call[] acts = {() -> x.carry(1, 3), () -> x.guests(0, 5), () -> x.prop(0, true), () -> x.give(0, 3, 7), () -> x.sweep(),
            () -> x.weeks(9), () -> x.mend(1), () -> x.prop(0, false), () -> x.weeks(1), () -> x.guests(0, 0), () -> x.sweep(), () -> x.carry(0, 0)};
        for (int act = 0; act < 12; act++) {
            states[act] = all(x);
            acts[act].run();
            due("remembered", x.count(14), act + 1);
        }
        due("a thing was stolen among them", x.count(11), 2);
        for (int act = 11; act >= 0; act--) {
            due("undo " + act, x.undo(), true);
            due("as ahead of act " + act, all(x), states[act]);
        }
        due("no more", x.undo(), false);
        due("as it was", all(x), states[0]);
    }

    private static void textsForget() {
        told("12 are remembered");
        SeeSawHill x = of("plank 400");
        for (int i = 1; i <= 13; i++) x.guests(0, i % 10);
        due("12 of 13", x.count(14), 12);
        for (int i = 0; i < 12; i++) due("undo " + i, x.undo(), true);
        due("the first stays", x.house(0, 1), 1);
        due("a 13th is not remembered", x.undo(), false);
        x.guests(0, 9);
        due("anew", x.count(14), 1);
        x.undo();
        due("as ahead of it", x.house(0, 1), 1);
        for (int i = 0; i < 30; i++) x.guests(1, i % 7);
        x.undo();
        x.undo();
        x.guests(1, 9);
        x.undo();
        due("behind some that were undone", x.house(1, 1), 27 % 7);
        due("that many", x.count(14), 10);

        told("but for the TAPE, fault(), THE IMAGE");
        SeeSawHill y = of("plank 400;snow 5");
        y.sweep();
        illegal("a wrong text", () -> hill(y, "oops"));
        put(y, "fee 77");
        y.image();
        y.undo();
        due("fault", y.fault(), 0);
        due("the tape", y.hill(), 2);
        due("read from it", y.count(9), 77);
        y.back();
        due("the image", y.count(5), 0);
        due("its fee", y.count(9), 3);

        told("A text, going back: none are remembered.");
        SeeSawHill z = of("plank 400");
        z.sweep();
        hill(z, "");
        due("a text", z.count(14), 0);
        due("nothing to undo", z.undo(), false);
        z.sweep();
        law(z, "");
        due("a law", z.count(14), 0);
        z.image();
        z.sweep();
        z.image();
        due("an image forgets none", z.count(14), 1);
        z.back();
        due("going back", z.count(14), 0);
        due("nothing to undo then", z.undo(), false);
        SeeSawHill v = of("plank 400");
        v.sweep();
        due("going nowhere", v.back(), false);
        due("forgets none", v.count(14), 1);
    }

    private static void image() {
        told("THE IMAGE (one) of all may be kept, and gone back to (but for the TAPE, fault() and THE IMAGE itself).");
        SeeSawHill x = of("plank 400;plank 30;thing 9 worth 9 in 0;snow 9;fall 30;thieves 30", "rent 5 if up;age 1");
        due("none is kept", x.back(), false);
        x.carry(0, 1);
        x.weeks(3);
        x.image();
        x.undo();
        x.undo();
        String first = all(x);
        due("remembered none", x.count(14), 0);
        x.image();
        x.seed(12345);
        x.weeks(40);
        x.prop(0, true);
        hill(x, "plank 10;thing 1 worth 1 in 4;step 3;fee 8;purse 0 1");
        law(x, "lure 3");
        due("back", x.back(), true);
        due("the latest image", all(x), first);
        illegal("a wrong text", () -> hill(x, "fee 1 oops"));
        put(x, "step 40");
        due("back again", x.back(), true);
        due("fault stays", x.fault(), 6);
        due("the tape stays", onTape(x), 7);
        due("the same again", all(x), first);
        SeeSawHill z = of("plank 400;thing 9 worth 9 in 0;thing 9 worth 9 in 0");
        z.carry(0, 1);
        z.image();
        z.undo();
        z.carry(1, 1);
        due("another row", z.log(0, 1), 1);
        z.back();
        due("the image's row", z.log(0, 1), 0);
        due("one row", z.count(13), 1);
        SeeSawHill y = new SeeSawHill();
        y.image();
        hill(y, "plank 99");
        law(y, "rent 1");
        due("back to nothing", y.back(), true);
        due("no planks", y.count(0), 0);
        due("no texts", y.count(2), 0);
        due("no law", y.count(3), NONE);
        for (int text = 1; text <= 12; text++) hill(y, "");
        y.back();
        due("texts count anew", hill(y, ""), 1);
    }

    // ---- Exceptions and sets

    private static void exceptionsTold() {
        told("Of several exceptions the one told first is thrown;");
        SeeSawHill x = of("plank 99;plank 99;thing 1 worth 9 in 0;thieves 100");
        x.weeks(1);
        outOfBounds("no plank, no what", () -> x.plank(2, 7));
        outOfBounds("no house, no what", () -> x.house(4, 9));
        outOfBounds("no thing, no what", () -> x.thing(1, 3));
        outOfBounds("gone, to no house", () -> x.carry(0, 4));
        outOfBounds("no thing, to a house", () -> x.carry(1, 0));
        outOfBounds("no house, no guests", () -> x.guests(4, 10));
        outOfBounds("no plank that is not broken", () -> x.mend(2));
        outOfBounds("no house, that and no number", () -> x.give(4, 4, 0));
        outOfBounds("to no house, no number", () -> x.give(0, 4, 0));
        outOfBounds("no house to one, no number", () -> x.give(4, 0, 0));
        outOfBounds("no plank, no tilt", () -> x.stand(2, 6));
        outOfBounds("no plank, no tilt to heave", () -> x.heave(2, 6, false));
        outOfBounds("no house, no weeks", () -> x.rent(4, 101));
        outOfBounds("no house, no weeks ahead", () -> x.ahead(4, 101, true));
        outOfBounds("no plank, no tape", () -> has(x, 2, false, 1, 2, 3));
        outOfBounds("no plank, no tape to ask", () -> ask(x, 2, 1, 2, 3));
        for (int text = 2; text <= 12; text++) hill(x, "");
        illegal("a wrong 13th text", () -> hill(x, "oops"));
        tooMany("a right one", () -> hill(x, "fee 1"));
    }

    private static SeeSawHill lived() {
        SeeSawHill x = of("plank 99;plank 10;thing 1 worth 9 in 0;thing 20 worth 1 in 2;thieves 100", "rent 1 if up");
        x.weeks(1);
        x.guests(1, 3);
        x.undo();
        x.carry(1, 3);
        put(x, "fee");
        return x;
    }

    private static void throwingChangesNothing() {
        told("a call that throws changes nothing but the TAPE, where it is used up.");
        Class<?> bounds = IndexOutOfBoundsException.class;
        Class<?> illegal = IllegalArgumentException.class;
        Class<?> state = IllegalStateException.class;
        Class<?> noSuch = java.util.NoSuchElementException.class;
        SeeSawHill[] x = {lived()};
        Object[][] calls = {
            {bounds, (Call) () -> x[0].plank(2, 0)}, {noSuch, (Call) () -> x[0].plank(0, 7)},
            {bounds, (Call) () -> x[0].house(4, 0)}, {noSuch, (Call) () -> x[0].house(0, 9)},
            {bounds, (Call) () -> x[0].thing(2, 0)}, {noSuch, (Call) () -> x[0].thing(0, 3)},
            {bounds, (Call) () -> x[0].carry(2, 0)}, {bounds, (Call) () -> x[0].carry(1, 4)}, {state, (Call) () -> x[0].carry(0, 1)},
            {bounds, (Call) () -> x[0].guests(4, 1)}, {illegal, (Call) () -> x[0].guests(0, 10)},
            {bounds, (Call) () -> x[0].prop(2, true)},
            {bounds, (Call) () -> x[0].mend(2)}, {state, (Call) () -> x[0].mend(0)},
            {bounds, (Call) () -> x[0].give(4, 0, 1)}, {bounds, (Call) () -> x[0].give(0, 4, 1)},
            {illegal, (Call) () -> x[0].give(0, 0, 1)}, {illegal, (Call) () -> x[0].give(0, 1, 0)}, {illegal, (Call) () -> x[0].give(0, 1, 9999)},
            {illegal, (Call) () -> x[0].weeks(0)}, {illegal, (Call) () -> x[0].weeks(61)},
            {bounds, (Call) () -> x[0].best(2)}, {bounds, (Call) () -> x[0].stand(2, 0)}, {illegal, (Call) () -> x[0].stand(0, 6)},
            {bounds, (Call) () -> x[0].heave(2, 0, true)}, {illegal, (Call) () -> x[0].heave(0, 6, true)},
            {bounds, (Call) () -> x[0].breaks(2)}, {bounds, (Call) () -> x[0].more(2)}, {bounds, (Call) () -> x[0].match(3, 4)},
            {bounds, (Call) () -> x[0].ballast(2)},
            {illegal, (Call) () -> x[0].guards(9, 0)}, {illegal, (Call) () -> x[0].guards(0, 100)}, {illegal, (Call) () -> x[0].loot(11)},
            {bounds, (Call) () -> x[0].rent(4, 1)}, {illegal, (Call) () -> x[0].rent(0, 101)},
            {bounds, (Call) () -> x[0].ahead(4, 1, true)}, {illegal, (Call) () -> x[0].ahead(0, 101, true)},
            {illegal, (Call) () -> x[0].trial(61, true)}, {illegal, (Call) () -> x[0].span(61, true)},
            {bounds, (Call) () -> x[0].led(2, true)}, {noSuch, (Call) () -> x[0].log(0, 5)},
        };
        for (int i = 0; i < calls.length; i++) {
            x[0] = lived();
            refused("call " + i, x[0], (Class<?>) calls[i][0], 3, (Call) calls[i][1]);
        }
        Object[][] using = {
            {bounds, (Call) () -> x[0].has(2, true)}, {illegal, (Call) () -> x[0].has(0, true)},
            {bounds, (Call) () -> x[0].ask(2)}, {illegal, (Call) () -> x[0].ask(0)},
        };
        for (int i = 0; i < using.length; i++) {
            x[0] = lived();
            refused("using the tape up " + i, x[0], (Class<?>) using[i][0], 0, (Call) using[i][1]);
        }
        x[0] = lived();
        String was = all(x[0]);
        illegal("a wrong hill", () -> x[0].hill());
        due("all behind it", all(x[0]), was);
        due("its tape", onTape(x[0]), 0);
        due("its fault", x[0].fault(), 3);
        x[0] = lived();
        illegal("a wrong law", () -> x[0].law());
        due("all behind the law", all(x[0]), was);
        due("the law's tape", onTape(x[0]), 0);
        due("the law's fault", x[0].fault(), 0);
    }

    private static void sets() {
        told("Sets are bits; of none they count for nothing.");
        SeeSawHill x = of("plank 99;plank 99;guests 1 2;guests 3 1");
        due("bits of none", x.match(-1, NONE), 5);
        due("the same", x.match(15, NONE), 5);
        due("none of none", x.match(-16, NONE), 0);
        due("one and one of none", x.match(1 + 16, NONE), NONE);
        due("two and many of none", x.match(-16 + 3, 0), 1);
        due("the sign's bit", x.match(Integer.MIN_VALUE | 6, 1), 2);
        due("an empty hill", new SeeSawHill().match(-1, NONE), 0);
        due("of five planks ten houses are too many", of(repeat("plank 99;", 4) + "plank 99").match(-1, NONE), NONE);
        due("of four planks eight are not", of(repeat("plank 99;", 3) + "plank 99").match(-1, NONE), 0);
    }
}
