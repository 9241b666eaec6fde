/** Each promise of the document by hand: ordinary inputs, the edges that it names, and wrong inputs. */
public final class PromisesTest extends Checks {
    public static void main(String[] args) {
        newObject();
        tape();
        hillTexts();
        hillFaults();
        lawTexts();
        lawFaults();
        lawMeaning();
        planks();
        houses();
        things();
        carrying();
        guestsAndProps();
        mending();
        giving();
        sweeping();
        weekByWeek();
        weekEdges();
        viewWellTwins();
        bestStandHeave();
        breaksMoreLast();
        matching();
        hasAndAsk();
        ballasts();
        thieves();
        guardsWithLaw();
        rentsPoorRich();
        heaviestAlike();
        aheads();
        trialsAndSpans();
        logs();
        seeds();
        undoing();
        images();
        counts();
        finish("PromisesTest");
    }

    // ---- Promises 1 to 6

    private static void newObject() {
        SeeSawHill x = new SeeSawHill();
        int[] first = {0, 0, 0, NONE, 0, 0, 10, 0, 0, 3, 0, 0, 0, 0, 0};
        for (int what = 0; what < first.length; what++) due("new count " + what, x.count(what), first[what]);
        due("new count 15", x.count(15), NONE);
        due("new count -1", x.count(-1), NONE);
        due("new fault", x.fault(), NONE);
        due("new seed", x.seed(4), 1);
        due("new view", x.view(), 0);
        due("new well", x.well(), 0);
        due("new twins", x.twins(), 0);
        due("new last", x.last(), NONE);
        due("new thief", x.thief(), NONE);
        due("new poor", x.poor(), NONE);
        due("new rich", x.rich(), NONE);
        due("new heaviest", x.heaviest(), NONE);
        due("new alike", x.alike(), 0);
        due("new guards", x.guards(8, 0), 0);
        due("new loot", x.loot(10), 0);
        due("new match", x.match(-1, NONE), 0);
        due("new trial", x.trial(60, false), 0);
        due("new span", x.span(60, false), 0);
        due("new undo", x.undo(), false);
        due("new back", x.back(), false);
        due("new weeks", x.weeks(60), 0);
        due("week behind them", x.count(4), 60);
        outOfBounds("new plank", () -> x.plank(0, 0));
        outOfBounds("new house", () -> x.house(0, 0));
        outOfBounds("new thing", () -> x.thing(0, 0));
    }

    private static void tape() {
        SeeSawHill x = new SeeSawHill();
        for (int i = 1; i <= 20; i++) due("feed " + i, x.feed(0x20202020, 0x20202020, 0x20202020, 0x20202020, 0x20202020), 20 * i);
        due("feed 21", x.feed(0, 0, 0, 0, 0), NONE);
        due("end 401", x.end(401), false);
        due("end -1", x.end(-1), false);
        due("end 400", x.end(400), true);
        due("end 381", x.end(381), true);
        due("feed over 400", x.feed(0, 0, 0, 0, 0), NONE);
        due("end 382 of 381", x.end(382), false);
        due("end 380", x.end(380), true);
        due("feed to 400", x.feed(0x20202020, 0x20202020, 0x20202020, 0x20202020, 0x20202020), 400);
        due("400 blanks are a text", x.hill(), 1);
        due("used up", x.end(1), false);
        due("end 0 of 0", x.end(0), true);
        due("an empty text", x.hill(), 2);
        // "fee 1;fee 27" with the highest byte of each number first.
        due("bytes", x.feed(0x66656520, 0x313b6665, 0x65203237, 0, 0), 20);
        x.end(12);
        due("read in their order", x.hill(), 3);
        due("fee", x.count(9), 27);
    }

    private static void hillTexts() {
        SeeSawHill x = new SeeSawHill();
        due("first", hill(x, "  plank10age99 ;plank 400 ; purse 3 999;guests 0 9;thing 60 worth 99 in 2;"
                + "thing 1 worth 0 in 0 ;snow 99; step 40;fall 100;thieves 100;fee 99  "), 1);
        due("planks", x.count(0), 2);
        due("things", x.count(1), 2);
        int[] told = {99, 40, 100, 100, 99};
        for (int i = 0; i < told.length; i++) due("told " + i, x.count(5 + i), told[i]);
        due("bears 0", x.plank(0, 0), 10);
        due("age 0", x.plank(0, 1), 99);
        due("bears 1", x.plank(1, 0), 400);
        due("age 1", x.plank(1, 1), 0);
        due("purse 3", x.house(3, 0), 999);
        due("purse 0", x.house(0, 0), 100);
        due("guests 0", x.house(0, 1), 9);
        due("behind another", hill(x, "plank 020;purse 5 007;thing 5 worth 6 in 4;step 001;snow 0;fall 0;thieves 0;fee 0;purse 3 0"), 2);
        due("planks then", x.count(0), 3);
        due("thing 2", x.thing(2, 2), 4);
        due("purse 5", x.house(5, 0), 7);
        due("purse 3 then", x.house(3, 0), 0);
        due("bears 2", x.plank(2, 0), 20);
        due("step then", x.count(6), 1);
        due("fee then", x.count(9), 0);
        for (int i = 3; i <= 12; i++) due("text " + i, hill(x, "fee " + i), i);
        due("fault", x.fault(), NONE);
        fails("a 13th", UnsupportedOperationException.class, () -> hill(x, "fee 13"));
        due("nothing changed", x.count(9), 12);
        due("fault of the 13th", x.fault(), NONE);
        illegal("a 13th that is wrong", () -> hill(x, "fee"));
        due("its fault", x.fault(), 3);
        due("texts", x.count(2), 12);
        due("14 lines", hill(new SeeSawHill(), repeat("fee 1;", 13) + "fee 2"), 1);
    }

    private static void hillFaults() {
        String one = "plank 100;thing 3 worth 3 in 1";
        wrongHill(one, "plank", 5);
        wrongHill(one, "plank  ", 7);
        wrongHill(one, "planks 10", 0);
        wrongHill(one, "Plank 10", 0);
        wrongHill(one, " plank 9", 7);
        wrongHill(one, "plank 0010", 6);
        wrongHill(one, "plank 10 10", 9);
        wrongHill(one, "plank 10 age", 12);
        wrongHill(one, "plank 10 aged 3", 9);
        wrongHill(one, "plank 10 age 0000", 13);
        wrongHill(one, "plank 10 ; ", 11);
        wrongHill(one, "plank 10;;", 9);
        wrongHill(one, ";", 0);
        wrongHill(one, "10", 0);
        wrongHill(one, "plank\t10", 5);
        wrongHill(one, "purse 2 5", 6);
        wrongHill(one, "purse 01", 8);
        wrongHill(one, "purse 1 1000", 8);
        wrongHill(one, "guests 1 10", 9);
        wrongHill(one, "thing 0 worth 1 in 0", 6);
        wrongHill(one, "thing 1 worth 1 in 2", 19);
        wrongHill(one, "thing 1 in 0", 8);
        wrongHill(one, "thing 1 worth 1 at 0", 16);
        wrongHill(one, "thing 1 worth 1 in", 18);
        wrongHill(one, "step 0", 5);
        wrongHill(one, "snow 1 2", 7);
        wrongHill(one, "fee 1 plank 10", 6);
        wrongHill(one, "fee 1;fee 2;fall 101", 17);
        wrongHill(one, repeat("fee 1;", 14), 84);
        wrongHill(one, repeat("fee 1;", 14) + "  ", 86);
        wrongHill(one, repeat("fee 1;", 14) + " fee 1", 85);
        wrongHill(one, repeat("plank 10;", 4) + " plank 10", 37);
        wrongHill(one + repeat(";thing 1 worth 1 in 1", 9), "fee 1;thing", 6);
        wrongHill(one, "fee " + (char) 200, 4);
        SeeSawHill x = of(one);
        illegal("nothing stays of it", () -> hill(x, "fee 9;plank 30;purse 0 5;guests 1 4;thing 1 worth 1 in 3;snow 4;oops"));
        due("fee", x.count(9), 3);
        due("planks", x.count(0), 1);
        due("things", x.count(1), 1);
        due("purse", x.house(0, 0), 100);
        due("load", x.house(1, 2), 3);
    }

    private static void lawTexts() {
        SeeSawHill x = of("plank 100");
        due("no law", x.count(3), NONE);
        due("no line", law(x, "   "), 0);
        due("lines of it", x.count(3), 0);
        due("empty", law(x, ""), 0);
        due("one", law(x, "rent 60"), 1);
        due("in place", law(x, "lure 0 if up;age 5if not level or(load+3<999)"), 2);
        due("12", law(x, repeat("age 5;", 11) + "age 5"), 12);
        due("ages by", x.plank(0, 6), 61);
        due("6 deep", law(x, "rent 1 if not not not not not not up"), 1);
        due("6 deep of both", law(x, "rent 1 if (not(not(not up)))"), 1);
        due("beside one another", law(x, "rent 1 if not not not not not not up and not not not not not not up or((((((up))))))"), 1);
        due("fault", x.fault(), NONE);
    }

    private static void lawFaults() {
        wrongLaw("rents 5", 0);
        wrongLaw("rent 5 if up;", 13);
        wrongLaw("rent 0060", 5);
        wrongLaw("rent if up", 5);
        wrongLaw("rent 5ifnot up", 6);
        wrongLaw("rent 5 up", 7);
        wrongLaw("rent 5 if up level", 13);
        wrongLaw("rent 5 if up and", 16);
        wrongLaw("rent 5 if up and or", 17);
        wrongLaw("rent 5 if up + 1 > 2", 13);
        wrongLaw("rent 5 if load", 14);
        wrongLaw("rent 5 if load + > 2", 17);
        wrongLaw("rent 5 if load = 2", 15);
        wrongLaw("rent 5 if load < 1000", 17);
        wrongLaw("rent 5 if load < 2 < 3", 19);
        wrongLaw("rent 5 if load < up", 17);
        wrongLaw("rent 5 if load < (2)", 17);
        wrongLaw("rent 5 if (load) < 2", 15);
        wrongLaw("rent 5 if (up or level", 22);
        wrongLaw("rent 5 if (up))", 14);
        wrongLaw("rent 5 if ()", 11);
        wrongLaw("rent 5 if ((((((( up", 16);
        wrongLaw("rent 5 if not(not(not(not up)))", 22);
        wrongLaw("rent 5 if not not not not not not ( up )", 34);
        wrongLaw("rent 5 if age > 3", 10);
        wrongLaw("rent 5 if purse > 3", 10);
        wrongLaw(repeat("age 5;", 12), 72);
        wrongLaw(repeat("age 5;", 12) + "  age 5", 74);
        wrongLaw("plank 10", 0);
        SeeSawHill x = of("plank 100");
        illegal("a text of the hill", () -> law(x, "fee 1"));
        hill(x, "fee 1");
        due("fault behind a right text", x.fault(), NONE);
    }

    private static void lawMeaning() {
        SeeSawHill x = of("plank 200 age 7;plank 200;guests 1 3;thing 20 worth 5 in 0;fee 0");
        // Loads 20, 15, 0, 0; tilt of the first plank 0: all are level.
        law(x, "rent 1 if level;rent 2 if up;rent 4 if load > 15;rent 8 if house + 1 < 2;rent 16 if guests > 2;rent 32 if aged > 6");
        due("house 0 pays", x.house(0, 5), 1 + 4 + 8 + 32);
        due("house 1 pays", x.house(1, 5), 1 + 16 + 32);
        due("house 2 pays", x.house(2, 5), 1);
        law(x, "rent 1 if week > 0 or level and up;rent 2 if not up and level;rent 4 if not (up or level);rent 8 if height+height>9");
        due("and binds before or", x.house(0, 5), 2 + 8);
        x.weeks(1);
        due("a week later", x.house(0, 5), 1 + 2 + 8);
        law(x, "rent 1 if up and up or level;rent 2 if not up or level and up;rent 4 if not (level and not level)");
        due("without brackets", x.house(3, 5), 1 + 2 + 4);
        law(x, "lure 3;lure 4 if house > 1;age 9 if house < 1;age 2 if house > 1;age 20 if house > 2");
        due("lures", x.house(0, 6), 8);
        due("lures of another", x.house(2, 6), 7);
        due("pays nothing", x.house(0, 5), 0);
        due("ages by its first house", x.plank(0, 6), 10);
        due("ages by its first house, too", x.plank(1, 6), 3);
        SeeSawHill y = of("plank 10;snow 30;fee 5", "rent 7;rent 9 if level");
        y.weeks(1);
        due("broken is not level", y.house(0, 5), 7);
        y.prop(0, true);
        due("nor propped", y.house(0, 5), 7);
        due("no height is paid for", y.house(1, 5), 7);
    }

    // ---- Promises 7 to 9

    private static void planks() {
        SeeSawHill x = of("plank 200 age 3;plank 50;thing 39 worth 1 in 1;thing 60 worth 1 in 2;thing 60 worth 2 in 2");
        int[] first = {200, 3, 0, 0, 8, 0, 1};
        for (int what = 0; what < first.length; what++) due("plank 0, " + what, x.plank(0, what), first[what]);
        due("tilt at most", x.plank(1, 4), 0);
        x.prop(1, true);
        due("tilt propped", x.plank(1, 4), 5);
        due("propped", x.plank(1, 2), 1);
        due("level", x.plank(1, 5), 1);
        x.weeks(1);
        due("broken", x.plank(1, 3), 1);
        due("tilt broken and propped", x.plank(1, 4), 5);
        due("not level", x.plank(1, 5), 0);
        x.prop(1, false);
        due("tilt broken", x.plank(1, 4), 0);
        outOfBounds("plank 2", () -> x.plank(2, 0));
        outOfBounds("plank -1", () -> x.plank(-1, 9));
        noSuch("plank what 7", () -> x.plank(0, 7));
        noSuch("plank what -1", () -> x.plank(0, -1));
    }

    private static void houses() {
        SeeSawHill x = of("plank 300;plank 300;guests 0 2;thing 20 worth 7 in 0;thing 5 worth 9 in 1;thing 31 worth 1 in 3;snow 4;step 10;fee 2");
        // Loads 34, 9, 4, 35: tilts -2, 3; heights 3, 7, 8, 2.
        int[] first = {100, 2, 34, 3, 1, 6, 7, 40, 5};
        for (int what = 0; what < first.length; what++) due("house 0, " + what, x.house(0, what), first[what]);
        int[] fourth = {100, 0, 35, 2, 4, 4, 1, 60, 5};
        for (int what = 0; what < fourth.length; what++) due("house 3, " + what, x.house(3, what), fourth[what]);
        due("share of one above", x.house(1, 7), 0);
        due("cork above", x.house(1, 8), 8);
        x.prop(1, true);
        due("height propped", x.house(3, 3), 5);
        due("cork propped", x.house(3, 8), 5);
        due("share of all", x.house(0, 7), 100);
        x.prop(0, true);
        due("share without", x.house(0, 7), 0);
        SeeSawHill y = of("plank 10;thing 60 worth 1 in 0;plank 400;thing 25 worth 1 in 3");
        y.weeks(1);
        due("height broken", y.house(1, 3), 0);
        due("cork broken", y.house(0, 8), 0);
        due("share rounded down", y.house(0, 7), 41);
        due("share of the other", y.house(3, 7), 16);
        outOfBounds("house 4", () -> x.house(4, 0));
        outOfBounds("house -1", () -> x.house(-1, 9));
        noSuch("house what 9", () -> x.house(0, 9));
        noSuch("house what -1", () -> x.house(3, -1));
    }

    private static void things() {
        SeeSawHill x = of("plank 300;thing 20 worth 7 in 1;thieves 100");
        due("weight", x.thing(0, 0), 20);
        due("worth", x.thing(0, 1), 7);
        due("house", x.thing(0, 2), 1);
        x.weeks(1);
        due("gone", x.thing(0, 2), NONE);
        due("weight still", x.thing(0, 0), 20);
        outOfBounds("thing 1", () -> x.thing(1, 0));
        outOfBounds("thing -1", () -> x.thing(-1, 5));
        noSuch("thing what 3", () -> x.thing(0, 3));
        noSuch("thing what -1", () -> x.thing(0, -1));
    }

    // ---- Promises 10 to 16

    private static void carrying() {
        SeeSawHill x = of("plank 300;plank 300;thing 20 worth 7 in 1");
        due("carry", x.carry(0, 2), 1);
        due("where", x.thing(0, 2), 2);
        due("load", x.house(2, 2), 20);
        due("load before", x.house(1, 2), 0);
        due("height", x.house(2, 3), 3);
        due("to the same", x.carry(0, 2), 2);
        due("rows", x.count(13), 2);
        due("acts", x.count(14), 2);
        outOfBounds("no thing", () -> x.carry(1, 0));
        outOfBounds("no house", () -> x.carry(0, 4));
        outOfBounds("house -1", () -> x.carry(0, -1));
        due("nothing changed", x.count(14), 2);
        hill(x, "thieves 100");
        x.weeks(1);
        cannotBe("gone", () -> x.carry(0, 0));
        outOfBounds("gone to no house", () -> x.carry(0, 4));
        due("rows then", x.count(13), 3);
        due("acts then", x.count(14), 1);
    }

    private static void guestsAndProps() {
        SeeSawHill x = of("plank 300;guests 1 4;step 5");
        due("guests", x.guests(1, 9), 4);
        due("load", x.house(1, 2), 45);
        due("tilt", x.plank(0, 4), 10);
        due("guests 0", x.guests(1, 0), 9);
        illegal("guests 10", () -> x.guests(1, 10));
        illegal("guests -1", () -> x.guests(1, -1));
        outOfBounds("guests of none", () -> x.guests(2, 10));
        due("acts", x.count(14), 2);
        x.guests(0, 2);
        due("prop", x.prop(0, true), true);
        due("again", x.prop(0, true), false);
        due("height", x.house(0, 3), 5);
        due("acts of all", x.count(14), 5);
        due("not", x.prop(0, false), true);
        due("not again", x.prop(0, false), false);
        due("height then", x.house(0, 3), 3);
        outOfBounds("prop none", () -> x.prop(1, true));
        outOfBounds("prop -1", () -> x.prop(-1, true));
    }

    private static void mending() {
        SeeSawHill x = of("plank 40 age 38;guests 0 1");
        cannotBe("not broken", () -> x.mend(0));
        outOfBounds("no plank", () -> x.mend(1));
        x.weeks(1);
        due("broken", x.plank(0, 3), 1);
        due("age", x.plank(0, 1), 39);
        x.weeks(3);
        due("it ages no more", x.plank(0, 1), 39);
        due("mend", x.mend(0), 39);
        due("whole", x.plank(0, 3), 0);
        due("age then", x.plank(0, 1), 0);
        cannotBe("mended", () -> x.mend(0));
        due("more", x.more(0), 35);
        x.prop(0, true);
        x.guests(0, 9);
        due("a load above what it bears breaks it", x.weeks(1), 0);
        due("broken, though propped", x.plank(0, 3), 1);
        due("mend a propped one", x.mend(0), 1);
        due("it stays propped", x.plank(0, 2), 1);
        due("whole, though too much is on it until a week goes by", x.plank(0, 3), 0);
        due("level by its prop", x.plank(0, 5), 1);
        due("it bears less than nothing", x.more(0), -5);
    }

    private static void giving() {
        SeeSawHill x = of("plank 100;plank 100;purse 1 999");
        due("give", x.give(0, 1, 100), 1099);
        due("giver", x.house(0, 0), 0);
        due("all", x.count(12), 1299);
        illegal("nothing left", () -> x.give(0, 1, 1));
        illegal("0", () -> x.give(1, 0, 0));
        illegal("below 0", () -> x.give(1, 0, -5));
        illegal("too much", () -> x.give(1, 0, 1100));
        illegal("both are one", () -> x.give(1, 1, 1));
        outOfBounds("no giver", () -> x.give(4, 1, 1));
        outOfBounds("no other", () -> x.give(1, 4, 0));
        outOfBounds("both are none", () -> x.give(4, 4, 0));
        due("acts", x.count(14), 1);
        SeeSawHill y = of("plank 100");
        for (int i = 0; i < 10; i++) {
            hill(y, "purse 0 999");
            due("give " + i, y.give(0, 1, 999), Math.min(9999, 100 + 999 * (i + 1)));
        }
        due("at most", y.house(1, 0), 9999);
        due("giver then", y.house(0, 0), 0);
    }

    private static void sweeping() {
        SeeSawHill x = of("plank 100;snow 37");
        due("load", x.house(0, 2), 37);
        due("sweep", x.sweep(), 37);
        due("swept", x.count(5), 0);
        due("load then", x.house(0, 2), 0);
        due("again", x.sweep(), 0);
        due("acts", x.count(14), 2);
    }

    private static void weekByWeek() {
        int[] d = draws(1, 6);
        SeeSawHill x = of("plank 400;fall 100;snow 5;fee 0");
        due("weeks", x.weeks(1), 0);
        due("snow of the second draw", x.count(5), 5 + d[1] % 10);
        x.weeks(1);
        due("snow of the fifth draw", x.count(5), 5 + d[1] % 10 + d[4] % 10);
        due("week", x.count(4), 2);
        due("age", x.plank(0, 1), 2);
        due("seed behind six draws", x.seed(0) >>> 16 & 0x7fff, d[5]);
        SeeSawHill y = of("plank 400;snow 99");
        y.weeks(1);
        due("half", y.count(5), 49);
        due("two draws are made always", y.seed(0) >>> 16 & 0x7fff, d[1]);
        SeeSawHill z = of("plank 400;snow 98;fall 100");
        z.weeks(60);
        due("snow at most", z.count(5), 99);
        illegal("0 weeks", () -> z.weeks(0));
        illegal("61 weeks", () -> z.weeks(61));
        illegal("-1 weeks", () -> z.weeks(-1));
        due("week then", z.count(4), 60);
        SeeSawHill r = of("plank 400;plank 400;thing 20 worth 5 in 0;thing 3 worth 9 in 1;thing 4 worth 9 in 1;thing 7 worth 6 in 3;thieves 100;fee 1");
        // House 0 lures by 5, 1 by 18, 3 by 6.
        due("stolen", r.weeks(1), 1);
        due("of the greatest worth the least", r.count(11), 2);
        due("purse 0", r.house(0, 0), 96);
        due("purse 1", r.house(1, 0), 94);
        due("two more", r.weeks(2), 2);
        due("gone", r.count(11), 14);
        due("the rest", r.weeks(5), 1);
        due("gone then", r.count(11), 15);
    }

    private static void weekEdges() {
        SeeSawHill x = of("plank 30;thing 29 worth 0 in 0;fee 9", "rent 5 if aged > 0;age 50 if week > 0");
        x.weeks(1);
        due("not above", x.plank(0, 3), 0);
        due("pays ahead of ageing", x.house(0, 0), 100 - 9 * 3);
        due("age", x.plank(0, 1), 1);
        x.weeks(1);
        due("broken", x.plank(0, 3), 1);
        due("pays as long as it is whole", x.house(0, 0), 100 - 9 * 3 - 9 * 3 - 5);
        due("age then", x.plank(0, 1), 52);
        x.weeks(5);
        due("broken pays nothing", x.house(0, 0), 100 - 9 * 3 - 9 * 3 - 5);
        SeeSawHill y = of("plank 400", "age 60;rent 60");
        y.weeks(2);
        due("age at most", y.plank(0, 1), 99);
        due("purse at least", y.house(1, 0), 0);
        SeeSawHill z = of("plank 50;guests 1 2;thing 40 worth 1 in 0;thieves 100");
        z.weeks(1);
        due("stolen ahead of breaking", z.plank(0, 3), 0);
        SeeSawHill w = of("plank 50;snow 20;fall 0;fee 0", "rent 1 if load > 10");
        w.weeks(1);
        due("snow ahead of paying", w.house(0, 0), 100);
        SeeSawHill v = of("plank 400");
        for (int i = 0; i < 168; i++) v.weeks(60);
        due("week at most", v.count(4), 9999);
    }

    // ---- Promises 17 to 29

    private static void viewWellTwins() {
        SeeSawHill x = of("plank 300;plank 300;plank 300;plank 20;thing 20 worth 1 in 0;thing 25 worth 1 in 2;thing 30 worth 1 in 6");
        due("view", x.view(), 2 + 8 + 128);
        due("well", x.well(), 1 + 4 + 64);
        due("twins", x.twins(), 1);
        x.prop(0, true);
        x.prop(1, true);
        due("view propped", x.view(), 128);
        due("well propped", x.well(), 64);
        due("twins propped", x.twins(), 3);
        x.weeks(1);
        due("view broken", x.view(), 0);
        due("well broken", x.well(), 64 + 128);
        x.carry(2, 0);
        due("twins without the broken", x.twins(), 3);
    }

    private static void bestStandHeave() {
        SeeSawHill x = of("plank 300;plank 300;thing 30 worth 1 in 0;thing 10 worth 1 in 0;thing 11 worth 1 in 0;thing 1 worth 1 in 1;thing 60 worth 1 in 2");
        // Loads 51 and 1: 30 leaves 10, 10 leaves 30, 11 leaves 28.
        due("best", x.best(0), 0);
        due("best of one thing", x.best(1), NONE);
        due("stand as it is", x.stand(0, -5), 0);
        due("stand level by two", x.stand(0, 0), 2 + 4);
        due("stand 1", x.stand(0, 1), 1);
        due("stand 2", x.stand(0, 2), 1 + 2 + 8);
        due("stand 4", x.stand(0, 4), NONE);
        due("stand 3", x.stand(0, 3), 3);
        due("stand 5", x.stand(0, 5), 7);
        due("heave level", x.heave(0, 0, false), 2 + 4);
        due("heave level how much", x.heave(0, 0, true), 21);
        due("heave none", x.heave(0, 4, true), NONE);
        due("heave none, as a set", x.heave(0, 4, false), NONE);
        due("heave -2", x.heave(0, -2, false), 4);
        due("heave 5", x.heave(1, 5, true), 60);
        due("stand 0 of none", x.stand(1, 0), NONE);
        x.prop(0, true);
        due("neither propped", x.stand(0, -5), 0);
        illegal("tilt 6", () -> x.stand(0, 6));
        illegal("tilt -6", () -> x.stand(0, -6));
        illegal("heave 6", () -> x.heave(0, 6, false));
        illegal("heave -6", () -> x.heave(0, -6, false));
        outOfBounds("best of none", () -> x.best(2));
        outOfBounds("stand of none", () -> x.stand(2, 9));
        outOfBounds("heave of none", () -> x.heave(-1, 9, true));
        SeeSawHill y = of("plank 300;thing 5 worth 1 in 0;thing 5 worth 1 in 0;thing 8 worth 1 in 1;thing 20 worth 1 in 0;step 1");
        // Loads 30 and 8: the fewest for -12 is one of the fives, the first of both.
        due("the least as bits", y.stand(0, -5), 0);
        due("one of two", y.stand(0, -2), 3);
        due("none for an odd one", y.stand(0, 1), NONE);
        due("the lighter way", y.heave(0, 2, false), 4 + 8);
        due("best of two", of("plank 99;thing 5 worth 1 in 1;thing 5 worth 1 in 1").best(0), 0);
        due("best of the other", of("plank 99;thing 9 worth 1 in 0;thing 3 worth 1 in 1;thing 14 worth 1 in 1").best(0), 1);
        due("best of differing as much", of("plank 99;guests 1 1;thing 5 worth 1 in 1").best(0), 0);
        due("not differing less", of("plank 99;guests 0 1;thing 5 worth 1 in 0;thing 10 worth 1 in 1").best(0), NONE);
        SeeSawHill w = of("plank 99;thing 3 worth 1 in 0;thing 3 worth 1 in 0;thing 6 worth 1 in 0;step 12");
        due("fewest, not lightest", w.stand(0, 0), 1);
        due("light, then the least", w.heave(0, 0, false), 1);
    }

    private static void breaksMoreLast() {
        SeeSawHill x = of("plank 50;plank 400;plank 60 age 9;thing 40 worth 1 in 0");
        due("breaks", x.breaks(0), 11);
        due("never", x.breaks(1), NONE);
        due("with age", x.breaks(2), 52);
        due("more", x.more(0), 10);
        due("more with age", x.more(2), 51);
        due("last", x.last(), 1);
        x.carry(0, 2);
        // Bears 400, age at most 99.
        due("still never", x.breaks(1), NONE);
        law(x, "age 9 if week > 4");
        // Ages 1 a week up to week 5, then 10: 14, 24, .. 54, 64.
        due("by the law", x.breaks(2), 10);
        due("nothing passes", x.count(4), 0);
        due("nor ages", x.plank(2, 1), 9);
        outOfBounds("breaks of none", () -> x.breaks(3));
        outOfBounds("more of none", () -> x.more(-1));
        SeeSawHill y = of("plank 30;plank 31;plank 31;thing 30 worth 1 in 1");
        y.weeks(1);
        due("broken", y.breaks(0), NONE);
        due("bears nothing", y.more(0), -10000);
        due("last of both", y.last(), 1);
        SeeSawHill z = of("plank 20;plank 25;plank 25;snow 20");
        due("more below 0", z.more(0), -20);
        due("breaks at once", z.breaks(0), 1);
        due("of several the least", z.last(), 0);
        z.weeks(1);
        due("last of broken", of("plank 10;snow 99").last(), 0);
        due("snow as it is", of("plank 45;snow 20").breaks(0), 6);
    }

    private static void matching() {
        SeeSawHill x = of("plank 99;plank 99;plank 99;plank 99;plank 99;"
                + "thing 10 worth 1 in 0;thing 20 worth 1 in 1;thing 30 worth 1 in 2;thing 40 worth 1 in 3");
        // All of 0, 10, 20 and 30 together: 20 by (0 1)(2 3), as by no other way.
        due("least", x.match(15, NONE), 20);
        due("of 0", x.match(15, 0), 1);
        due("of 3", x.match(15, 3), 2);
        due("two apart", x.match(9, NONE), 30);
        due("none", x.match(0, NONE), 0);
        due("of none", x.match(0, 3), NONE);
        due("odd", x.match(7, NONE), NONE);
        due("odd of one", x.match(7, 1), NONE);
        due("more than 8", x.match(1023, NONE), NONE);
        due("eight", x.match(255, NONE), 20);
        due("the empty ones", x.match(255, 4), 5);
        due("then the others", x.match(255, 6), 7);
        due("not of the set", x.match(3, 2), NONE);
        due("bits of none", x.match(3 | 1 << 10 | 1 << 31, NONE), 10);
        outOfBounds("no house", () -> x.match(15, 10));
        outOfBounds("house -2", () -> x.match(15, -2));
        SeeSawHill y = of("plank 99;plank 99;thing 10 worth 1 in 1;thing 10 worth 1 in 0");
        due("a tie: the first way", y.match(15, 0), 1);
        SeeSawHill z = of("plank 99;plank 99;thing 10 worth 1 in 0;thing 10 worth 1 in 2");
        due("not the first", z.match(15, 0), 2);
        due("nor the second", z.match(15, 3), 1);
        due("nothing", z.match(15, NONE), 0);
        SeeSawHill w = of("plank 99;plank 99;thing 30 worth 1 in 0;thing 10 worth 1 in 1;thing 20 worth 1 in 2");
        // 30, 10, 20, 0: (0 1)(2 3) 40, (0 2)(1 3) 20, (0 3)(1 2) 40.
        due("with the least that can be", w.match(15, 1), 3);
    }

    private static void hasAndAsk() {
        SeeSawHill x = of("plank 300;plank 300;thing 4 worth 9 in 0;thing 8 worth 8 in 0;thing 16 worth 7 in 0;thing 30 worth 1 in 1;thing 2 worth 1 in 0;thieves 100");
        x.weeks(3);
        // 4, 8 and 16 are gone; loads 2 and 30: 28, 24, 20, 16, 12, 8, 4, 0 of weight more there.
        due("gone", x.count(11), 7);
        due("none told", has(x, 0, false), 8);
        due("none sure", has(x, 0, true), 0);
        due("height 7", has(x, 0, false, 0, 7), 3);
        due("sure of 6", has(x, 0, true, 0, 6), 0);
        due("height 6", has(x, 0, false, 0, 6), 2);
        due("height 5", has(x, 0, false, 0, 5), 3);
        due("sure of 5", has(x, 0, true, 0, 5), 4);
        due("with guests", has(x, 0, false, 2, 5, 0, 6), 2);
        due("with guests sure", has(x, 0, true, 2, 6, 0, 7), 0);
        due("no set", has(x, 0, false, 0, 0), 0);
        due("no set sure", has(x, 0, true, 0, 0), 0);
        due("another plank", has(x, 1, false, 0, 5), 3);
        due("used up", x.end(1), false);
        // Without guests 3, 2, 3 of the eight; no way leaves fewer than 3 in one.
        due("ask", ask(x, 0), 0);
        due("ask with fewer than two", ask(x, 0, 0, 0), NONE);
        due("ask used it up", x.end(1), false);
        // Of 12 and 16 (differ 16, 12) one more guest parts 11 and 7.
        due("ask of two", ask(x, 0, 0, 6), 1);
        illegal("odd", () -> has(x, 0, false, 1));
        due("used up by a wrong one", x.end(1), false);
        illegal("21 guests", () -> has(x, 0, false, 21, 5));
        illegal("height 11", () -> has(x, 0, false, 20, 11));
        illegal("below 0", () -> has(x, 0, false, 255, 5));
        illegal("height below 0", () -> ask(x, 0, 3, 200));
        illegal("42 bytes", () -> has(x, 0, false, new int[42]));
        due("40 bytes", has(x, 0, false, new int[40]), 0);
        illegal("ask odd", () -> ask(x, 0, 1, 2, 3));
        outOfBounds("no plank", () -> has(x, 2, false, 1));
        due("used up all the same", x.end(1), false);
        outOfBounds("ask of no plank", () -> ask(x, -1, 1));
        due("used up by ask, too", x.end(1), false);
        due("fault is of texts alone", x.fault(), NONE);
        x.prop(0, true);
        due("neither propped", has(x, 0, false, 0, 7), 3);
        SeeSawHill y = of("plank 400" + repeat(";thing 1 worth 1 in 0", 10) + ";thieves 100;step 1");
        y.weeks(10);
        due("all sets", has(y, 0, false), 1024);
        due("sets of three", has(y, 0, false, 0, 2), 120);
        due("all in it", has(y, 0, true, 0, 0), 0);
        due("at least five", has(y, 0, false, 0, 0), 638);
        due("exactly none", has(y, 0, false, 0, 5), 1);
        due("nothing is as now", y.count(11), 1023);
        // Loads 0 and 61 by 40: an ounce more is seen first with 20 guests, where 39 becomes 40.
        SeeSawHill z = of("plank 400;thing 1 worth 99 in 0;thing 60 worth 0 in 1;thing 1 worth 0 in 1;step 40;thieves 100");
        z.weeks(1);
        due("ask with the most", ask(z, 0), 20);
        due("ask all", ask(y, 0), 0);
    }

    private static void ballasts() {
        SeeSawHill x = of("plank 300;plank 300;plank 30;thing 15 worth 1 in 0;thing 60 worth 1 in 3;snow 10");
        due("taking in never helps", x.ballast(0), 1);
        due("at the lowest", x.ballast(1), 1);
        x.weeks(1);
        due("broken", x.ballast(2), 1);
        outOfBounds("no plank", () -> x.ballast(3));
    }

    // ---- Promises 30 to 37

    private static void thieves() {
        SeeSawHill x = of("plank 300;plank 300;thing 1 worth 40 in 0;thing 1 worth 30 in 0;thing 1 worth 60 in 2;thing 1 worth 5 in 3");
        due("thief", x.thief(), 0);
        due("loot 0", x.loot(0), 0);
        due("loot 1", x.loot(1), 40);
        due("loot 2", x.loot(2), 100);
        due("loot 4", x.loot(4), 135);
        due("loot 10", x.loot(10), 135);
        due("nothing is gone", x.count(11), 0);
        illegal("loot -1", () -> x.loot(-1));
        illegal("loot 11", () -> x.loot(11));
        due("guards 0", x.guards(0, 0), 0);
        due("guards 1, 40", x.guards(1, 40), 0);
        due("guards 1, 39", x.guards(1, 39), 1 + 4);
        due("guards 2, 59", x.guards(2, 59), 4);
        due("guards 8, 4", x.guards(8, 4), 1 + 4 + 8);
        due("guards 8, 5", x.guards(8, 5), 1 + 4);
        due("guards 8, 99", x.guards(8, 99), 0);
        illegal("guards -1", () -> x.guards(-1, 5));
        illegal("guards 9", () -> x.guards(9, 5));
        illegal("worth -1", () -> x.guards(1, -1));
        illegal("worth 100", () -> x.guards(1, 100));
        SeeSawHill y = of("plank 99;plank 99;thing 1 worth 5 in 0;thing 1 worth 5 in 1;thing 1 worth 5 in 2;thing 1 worth 5 in 3");
        due("three are not enough", y.guards(1, 4), NONE);
        due("four thieves", y.guards(8, 5), 0);
        due("of several the least", of("plank 99").thief(), 0);
        due("with nothing to take", of("plank 99").loot(3), 0);
    }

    private static void guardsWithLaw() {
        SeeSawHill x = of("plank 300;plank 300;thing 20 worth 9 in 0;thing 1 worth 2 in 1;thing 1 worth 8 in 2;fee 0",
                "lure 50 if load > 10;lure 30 if house > 2;lure 20 if house + height < 6");
        // House 0: 9 + 50 + 20 (height 4), 1: 2, 2: 8, 3: 30.
        due("thief", x.thief(), 0);
        due("lures", x.house(0, 6), 79);
        // Behind the first one, house 0 has height 5 and lures by 20, house 3 by 30 with nothing in it.
        due("loot", x.loot(5), 9);
        due("an empty house draws them all", x.guards(8, 8), 1);
        due("guarded by none", x.guards(8, 9), 0);
        SeeSawHill y = of("plank 300;thing 5 worth 4 in 0;thing 5 worth 9 in 1", "lure 60 if house < 1");
        due("one stays at the lure", y.loot(9), 4);
        due("behind it all is safe", y.guards(8, 4), 0);
        due("without it not", y.guards(8, 3), 1 + 2);
    }

    private static void rentsPoorRich() {
        SeeSawHill x = of("plank 100;plank 30;thing 20 worth 50 in 0;thing 28 worth 1 in 2;fee 2;purse 3 149");
        // Heights 3, 7, 3, 7; plank 1 breaks in week 3.
        due("rent", x.rent(0, 5), 30);
        due("rent 0", x.rent(0, 0), 0);
        due("rent of all", x.rent(1, 100), 100);
        due("rent until it breaks", x.rent(2, 100), 18);
        due("rent at most", x.rent(3, 2), 28);
        due("poor", x.poor(), 8);
        due("rich", x.rich(), 0);
        illegal("rent -1", () -> x.rent(0, -1));
        illegal("rent 101", () -> x.rent(0, 101));
        outOfBounds("rent of none", () -> x.rent(4, 101));
        due("nothing is paid", x.count(12), 449);
        hill(x, "purse 3 151");
        due("richer", x.rich(), 3);
        hill(x, "purse 2 0");
        due("poor now", x.poor(), 0);
        due("never poor", of("plank 400;fee 0").poor(), NONE);
        due("in 100", of("plank 400;fee 0;purse 0 100;purse 1 101", "rent 1").poor(), 100);
        due("not in 101", of("plank 400;fee 0;purse 0 101;purse 1 101", "rent 1").poor(), NONE);
        due("rich of several", of("plank 99;purse 0 90;thing 1 worth 10 in 0").rich(), 0);
    }

    private static void heaviestAlike() {
        SeeSawHill x = of("plank 99;plank 99;thing 5 worth 1 in 0;thing 9 worth 9 in 3;thing 9 worth 1 in 1;thieves 100");
        due("heaviest", x.heaviest(), 1);
        x.weeks(1);
        due("not gone", x.heaviest(), 2);
        due("nothing", of("plank 99").heaviest(), NONE);
        SeeSawHill y = of("plank 300;plank 300;thing 20 worth 1 in 0;thing 20 worth 1 in 3;guests 1 2");
        // Loads 20, 10, 0, 20; heights 4, 6, 7, 3.
        due("none alike", y.alike(), 0);
        y.guests(1, 4);
        y.guests(2, 4);
        due("all alike", y.alike(), 6);
        y.guests(2, 3);
        // Loads 20, 20, 15, 20: all are level.
        due("three alike", y.alike(), 3);
    }

    // ---- Promises 38 to 47

    private static void aheads() {
        SeeSawHill x = of("plank 30;plank 400;thing 20 worth 9 in 0;thing 25 worth 9 in 3;snow 3;fall 100;thieves 100;fee 1");
        due("height now", x.ahead(0, 0, false), 3);
        due("purse now", x.ahead(0, 0, true), 100);
        due("purse", x.ahead(1, 3, true), 79);
        due("whole", x.ahead(1, 4, false), 7);
        due("broken", x.ahead(1, 5, false), 0);
        due("purse then", x.ahead(1, 90, true), 65);
        due("of another plank", x.ahead(3, 10, true), 70);
        due("its height", x.ahead(3, 100, false), 3);
        illegal("-1", () -> x.ahead(0, -1, true));
        illegal("101", () -> x.ahead(0, 101, true));
        outOfBounds("no house", () -> x.ahead(4, 101, true));
        due("seed stays", x.seed(1), 1);
        law(x, "rent 10 if week > 1 and aged < 4");
        due("law ahead", x.ahead(2, 6, true), 100 - 6 * 7 - 20);
    }

    private static void trialsAndSpans() {
        SeeSawHill x = of("plank 30;plank 400;plank 20;thing 20 worth 9 in 0;thing 12 worth 90 in 3;thing 12 worth 80 in 3;thieves 50;fall 50");
        for (int n = 0; n <= 12; n += 3) {
            int gone = x.trial(n, false);
            int broken = x.trial(n, true);
            due("nothing stays of " + n, x.count(11) + x.count(10) + x.count(13) + x.count(4), 0);
            if (n == 0) continue;
            x.weeks(n);
            due("things of " + n, Integer.bitCount(x.count(11)), gone);
            due("planks of " + n, x.count(10), broken);
            x.undo();
        }
        int fewest = 99;
        int most = -1;
        for (int seed = 1; seed <= 6; seed++) {
            x.seed(seed);
            fewest = Math.min(fewest, x.trial(2, false));
            most = Math.max(most, x.trial(2, false));
        }
        due("span fewest", x.span(2, false), fewest);
        due("span most", x.span(2, true), most);
        due("seed stays", x.seed(0), 6);
        illegal("trial -1", () -> x.trial(-1, true));
        illegal("trial 61", () -> x.trial(61, true));
        illegal("span -1", () -> x.span(-1, true));
        illegal("span 61", () -> x.span(61, true));
        hill(x, "thieves 100");
        due("every week one", x.trial(2, false), 2);
        x.weeks(1);
        due("those gone count, too", x.trial(1, false), 2);
        due("now", x.trial(0, false), 1);
        due("span now", x.span(0, true), 1);
        due("span of all", x.span(60, false), 3);
    }

    private static void logs() {
        SeeSawHill x = of("plank 300;plank 300;thing 20 worth 9 in 0;thing 12 worth 90 in 3;thieves 100");
        due("without", x.log(0, 0), -2);
        x.weeks(1);
        x.carry(0, 2);
        int[] latest = {1, 0, 0, 2, 0};
        int[] before = {0, 1, 3, NONE, 1};
        for (int what = 0; what < 5; what++) {
            due("latest " + what, x.log(0, what), latest[what]);
            due("before " + what, x.log(1, what), before[what]);
            due("without " + what, x.log(2, what), -2);
            due("below 0 " + what, x.log(-1, what), -2);
        }
        noSuch("what 5", () -> x.log(0, 5));
        noSuch("what -1", () -> x.log(0, -1));
        noSuch("what 5 without a row", () -> x.log(9, 5));
        due("led", x.led(0, false), 1);
        due("led week", x.led(0, true), 1);
        due("led of the stolen", x.led(1, true), 0);
        outOfBounds("led of none", () -> x.led(2, false));
        outOfBounds("led of -1", () -> x.led(-1, true));
        SeeSawHill y = of("plank 300;thing 2 worth 9 in 0;thing 3 worth 2 in 0;fee 0");
        y.carry(1, 1);
        due("led never", y.led(0, true), NONE);
        due("led never, rows", y.led(0, false), 0);
        y.weeks(5);
        for (int i = 0; i < 59; i++) y.carry(0, i % 2);
        due("60 rows", y.count(13), 60);
        due("the oldest", y.log(59, 1), 1);
        y.carry(0, 0);
        due("still 60", y.count(13), 60);
        due("the oldest is dropped", y.led(1, false), 0);
        due("its week, too", y.led(1, true), NONE);
        due("all of the other", y.led(0, false), 60);
        due("week of it", y.led(0, true), 5);
        due("60 ago", y.log(60, 0), -2);
        y.undo();
        due("undone, the oldest is there again", y.led(1, false), 1);
        due("and the latest, from", y.log(0, 2), 1);
        due("and the latest, to", y.log(0, 3), 0);
        due("and one ahead of it", y.log(1, 2), 0);
        y.image();
        for (int i = 0; i < 70; i++) y.carry(1, 1);
        due("all rows are new", y.led(0, false), 0);
        y.back();
        due("behind back none is", y.led(1, false), 1);
        for (int ago = 0; ago < 59; ago++) due("row " + ago, y.log(ago, 3), ago % 2);
    }

    private static void seeds() {
        SeeSawHill x = of("plank 300");
        due("first", x.seed(-7), 1);
        due("then", x.seed(Integer.MAX_VALUE), -7);
        x.weeks(1);
        int seed = 1103515245 * (1103515245 * Integer.MAX_VALUE + 12345) + 12345;
        due("behind two draws", x.seed(0), seed);
        due("no act", x.count(14), 1);
    }

    private static void undoing() {
        SeeSawHill x = of("plank 300;plank 10;thing 20 worth 9 in 0;thing 12 worth 1 in 2;snow 8;thieves 100");
        x.carry(0, 1);
        x.guests(0, 3);
        x.prop(0, true);
        x.give(0, 1, 40);
        x.sweep();
        x.weeks(3);
        x.mend(1);
        due("acts", x.count(14), 7);
        due("undo mend", x.undo(), true);
        due("broken again", x.count(10), 2);
        x.seed(77);
        due("undo weeks", x.undo(), true);
        due("seed as ahead of it", x.seed(1), 1);
        due("week", x.count(4), 0);
        due("gone", x.count(11), 0);
        due("rows", x.count(13), 1);
        due("purse", x.house(1, 0), 140);
        due("undo sweep", x.undo(), true);
        due("snow", x.count(5), 8);
        due("undo give", x.undo(), true);
        due("given", x.house(0, 0), 100);
        due("undo prop", x.undo(), true);
        due("propped", x.plank(0, 2), 0);
        due("tilt", x.plank(0, 4), 5);
        due("undo guests", x.undo(), true);
        due("guests", x.house(0, 1), 0);
        due("height", x.house(0, 3), 7);
        due("undo carry", x.undo(), true);
        due("where", x.thing(0, 2), 0);
        due("log", x.count(13), 0);
        due("nothing left", x.undo(), false);
        for (int i = 1; i <= 15; i++) {
            x.guests(0, i % 10);
            due("acts remembered", x.count(14), Math.min(12, i));
        }
        for (int i = 0; i < 12; i++) due("undone " + i, x.undo(), true);
        due("no 13th", x.undo(), false);
        due("as behind the third", x.house(0, 1), 3);
        x.sweep();
        illegal("a wrong text", () -> hill(x, "oops"));
        due("forgets nothing", x.count(14), 1);
        due("but its fault stays", x.fault(), 0);
        x.undo();
        due("also behind undo", x.fault(), 0);
        put(x, "fee 9");
        x.sweep();
        x.undo();
        due("the tape stays", x.hill(), 3 - 1);
        x.sweep();
        law(x, "rent 1");
        due("a law forgets", x.undo(), false);
        x.sweep();
        hill(x, "");
        due("a text forgets", x.undo(), false);
    }

    private static void images() {
        SeeSawHill x = of("plank 300;thing 20 worth 9 in 0;thieves 100", "rent 1");
        due("none kept", x.back(), false);
        x.sweep();
        due("nothing happened", x.count(14), 1);
        x.carry(0, 1);
        x.seed(5);
        x.image();
        due("image forgets nothing", x.count(14), 2);
        x.weeks(4);
        hill(x, "plank 40;fee 9;snow 3");
        law(x, "rent 1;age 3;lure 2");
        illegal("a wrong text", () -> law(x, "rent"));
        put(x, "step 7");
        due("back", x.back(), true);
        due("planks", x.count(0), 1);
        due("texts", x.count(2), 1);
        due("lines", x.count(3), 1);
        due("week", x.count(4), 0);
        due("fee", x.count(9), 3);
        due("gone", x.count(11), 0);
        due("rows", x.count(13), 1);
        due("acts", x.count(14), 0);
        due("no undo", x.undo(), false);
        due("seed", x.seed(5), 5);
        due("law", x.house(1, 5), 3 * 3 + 1);
        due("fault stays", x.fault(), 4);
        due("the tape stays", x.hill(), 2);
        due("step", x.count(6), 7);
        x.sweep();
        due("back again", x.back(), true);
        due("step of the image", x.count(6), 10);
        x.guests(0, 2);
        x.image();
        x.undo();
        due("undo leaves the image", x.back(), true);
        due("guests", x.house(0, 1), 2);
    }

    private static void counts() {
        SeeSawHill x = of("plank 10;plank 20;plank 300;thing 20 worth 9 in 0;thing 12 worth 90 in 3;snow 7;step 8;fall 0;thieves 100;fee 6;purse 2 1");
        int[] due = {3, 2, 1, NONE, 0, 7, 8, 0, 100, 6, 0, 0, 501, 0, 0};
        for (int what = 0; what < due.length; what++) due("count " + what, x.count(what), due[what]);
        x.weeks(1);
        due("broken", x.count(10), 1);
        due("gone", x.count(11), 2);
        due("snow", x.count(5), 3);
        due("rows", x.count(13), 1);
        due("acts", x.count(14), 1);
        due("count 15", x.count(15), NONE);
        due("count -1", x.count(-1), NONE);
    }
}
