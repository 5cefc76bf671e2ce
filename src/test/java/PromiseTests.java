/** A test or more for each promise of the document, with answers reckoned by hand. */
public final class PromiseTests {
    private static boolean well = true;

    public static void main(String[] args) {
        people();
        laws();
        seasons();
        trials();
        looks();
        houses();
        papers();
        shops();
        images();
        if (!well) System.exit(1);
    }

    private static void end(Checks c) {
        well &= c.end();
    }

    // ---- promises 1 to 7

    private static void people() {
        newObject();
        person();
        sees();
        shows();
        money();
        set();
        seed();
    }

    private static void newObject() {
        Checks c = new Checks("1 a new object");
        HemLine x = new HemLine();
        int[] due = {0, 0, 0, -1, 0, 0, 0, 0, 0, 0, -1, -1, -1, -1, -1};
        for (int i = 0; i < due.length; i++) c.is("count(" + i + ")", x.count(i), due[i]);
        c.is("fault()", x.fault(), -1);
        c.is("line(0)", x.line(0), -1);
        c.is("best()", x.best(), -1);
        c.is("NONE", HemLine.NONE, -1);
        end(c);
    }

    private static void person() {
        Checks c = new Checks("2 person");
        HemLine x = new HemLine();
        int[][] wrong = {{-1, 0, 0}, {10, 0, 0}, {0, -1, 0}, {0, 100, 0}, {0, 0, -1}, {0, 0, 61}};
        for (int[] w : wrong) c.is("wrong person", x.person(w[0], w[1], w[2]), -1);
        c.is("count(0)", x.count(0), 0);
        c.is("person(0, 0, 0)", x.person(0, 0, 0), 0);
        c.is("person(9, 99, 60)", x.person(9, 99, 60), 1);
        int[] due = {9, 99, 60, 0, 0, 0};
        for (int i = 0; i < due.length; i++) c.is("wears(1, " + i + ")", x.wears(1, i), due[i]);
        c.is("line(0)", x.line(0), 3000);
        for (int i = 2; i < 16; i++) c.is("person", x.person(1, 1, 1), i);
        c.is("17th person", x.person(1, 1, 1), -1);
        c.is("count(0)", x.count(0), 16);
        end(c);
        c = new Checks("2 person in a later season");
        x = Checks.follower(4);
        c.is("image()", x.image(), 0);
        x.run(1);
        c.is("person(1, 1, 1)", x.person(1, 1, 1), -1);
        c.is("count(0)", x.count(0), 1);
        x.back(0);
        c.is("person(1, 1, 1)", x.person(1, 1, 1), 1);
        c.is("line(0)", x.line(0), 250);
        end(c);
    }

    private static void sees() {
        Checks c = new Checks("3 sees");
        HemLine x = new HemLine();
        for (int i = 0; i < 16; i++) x.person(i % 10, 0, i);
        c.is("sees(0, 15, true)", x.sees(0, 15, true), true);
        c.is("sees(0, 1, true)", x.sees(0, 1, true), true);
        c.is("wears(0, 5)", x.wears(0, 5), 32770);
        c.is("wears(15, 5)", x.wears(15, 5), 0);
        c.is("sees(0, 15, false)", x.sees(0, 15, false), true);
        c.is("sees(0, 2, false)", x.sees(0, 2, false), true);
        c.is("wears(0, 5)", x.wears(0, 5), 2);
        c.is("sees(3, 3, true)", x.sees(3, 3, true), false);
        c.is("sees(3, 16, true)", x.sees(3, 16, true), false);
        c.is("sees(16, 3, true)", x.sees(16, 3, true), false);
        c.is("sees(-1, 3, true)", x.sees(-1, 3, true), false);
        c.is("sees(3, -1, false)", x.sees(3, -1, false), false);
        c.is("wears(3, 5)", x.wears(3, 5), 0);
        end(c);
    }

    private static void shows() {
        Checks c = new Checks("4 shows");
        HemLine x = new HemLine();
        c.is("shows(0, 0)", x.shows(0, 0), true);
        c.is("shows(3, 60)", x.shows(3, 60), true);
        c.is("shows(3, 61)", x.shows(3, 61), false);
        c.is("shows(3, -2)", x.shows(3, -2), false);
        c.is("shows(4, 5)", x.shows(4, 5), false);
        c.is("shows(-1, 5)", x.shows(-1, 5), false);
        c.is("count(10)", x.count(10), 0);
        c.is("count(13)", x.count(13), 60);
        c.is("shows(3, NONE)", x.shows(3, -1), true);
        c.is("count(13)", x.count(13), -1);
        x.person(1, 1, 10);
        Checks.tell(x, "to house 3 5;to house 0 2;");
        x.run(1);
        c.is("a house that shows none has no mean", x.wears(0, 2), 8);
        x.shows(3, 30);
        x.run(2);
        c.is("wears(0, 2)", x.wears(0, 2), 18);
        c.is("count(13) goes on", x.count(13), 30);
        end(c);
    }

    private static void money() {
        Checks c = new Checks("5 money");
        HemLine x = new HemLine();
        c.is("money(99)", x.money(99), true);
        c.is("money(100)", x.money(100), false);
        c.is("money(-1)", x.money(-1), false);
        c.is("count(9)", x.count(9), 99);
        x.person(1, 1, 10);
        Checks.tell(x, "to house 0 1 if money = 99;");
        x.shows(0, 60);
        x.run(2);
        c.is("money(0)", x.money(0), true);
        x.run(3);
        c.is("wears(0, 2)", x.wears(0, 2), 12);
        c.is("count(9)", x.count(9), 0);
        end(c);
    }

    private static void set() {
        Checks c = new Checks("6 all are 0 at first");
        HemLine f = Checks.follower(10);
        Checks.walk(f, 11);
        c.is("an inch isn't within SEAM 0", f.wears(0, 14), 0);
        c.is("but paid at PRICE 0", f.wears(0, 15), 1);
        c.is("wears(0, 2)", f.wears(0, 2), 11);
        end(c);
        c = new Checks("6 set");
        HemLine x = new HemLine();
        c.is("set(999, 9, 99)", x.set(999, 9, 99), true);
        c.is("set(0, 0, 0)", x.set(0, 0, 0), true);
        c.is("set(7, 2, 3)", x.set(7, 2, 3), true);
        int[][] wrong = {{-1, 0, 0}, {1000, 0, 0}, {0, -1, 0}, {0, 10, 0}, {0, 0, -1}, {0, 0, 100}};
        for (int[] w : wrong) c.is("wrong set", x.set(w[0], w[1], w[2]), false);
        x.person(1, 10, 10);
        Checks.tell(x, "to house 0 2 if season = 1;to house 0 3;");
        x.shows(0, 60);
        x.run(1);
        c.is("two inches by the seam cost OVER", x.wears(0, 3), 7);
        x.run(1);
        c.is("three cost PRICE", x.wears(0, 3), 10);
        c.is("paid OVER", x.wears(0, 14), 1);
        c.is("paid PRICE", x.wears(0, 15), 1);
        c.is("wears(0, 2)", x.wears(0, 2), 15);
        end(c);
    }

    /** From 0 on the CHANCES are 7 and 24, reckoned with another program. */
    private static void seed() {
        Checks c = new Checks("7 seed");
        HemLine x = new HemLine();
        c.is("seed(999999999)", x.seed(999_999_999), true);
        c.is("seed(-1)", x.seed(-1), false);
        c.is("seed(1000000000)", x.seed(1_000_000_000), false);
        c.is("seed(0)", x.seed(0), true);
        x.person(1, 0, 10);
        x.person(1, 0, 10);
        x.shows(0, 20);
        Checks.tell(x, "to house 0 1 if chance = 7;to house 0 2 if chance = 24;to house 0 3;");
        x.run(1);
        c.is("wears(0, 2)", x.wears(0, 2), 11);
        c.is("wears(1, 2)", x.wears(1, 2), 12);
        end(c);
        c = new Checks("7 z is 1 at first");
        HemLine a = new HemLine();
        HemLine b = new HemLine();
        b.seed(1);
        for (HemLine y : new HemLine[] {a, b}) {
            for (int i = 0; i < 16; i++) y.person(1, 0, 30);
            y.shows(0, 0);
            Checks.tell(y, "to house 0 1 if chance < 30;to house 0 2 if chance < 60;");
            y.run(5);
        }
        for (int i = 0; i < 16; i++) c.is("length of " + i, a.wears(i, 2), b.wears(i, 2));
        end(c);
    }

    // ---- promises 8 to 11

    private static void laws() {
        feed();
        law();
        rules();
        bounds();
        faults();
        open();
        conditions();
        force();
    }

    private static void feed() {
        Checks c = new Checks("8 feed");
        HemLine x = new HemLine();
        // "stay if chance < 40;" by hand
        c.is("feed", x.feed(0x73746179, 0x20696620, 0x6368616E, 0x6365203C, 0x2034303B), 20);
        for (int i = 2; i <= 35; i++) c.is("feed " + i, x.feed(-1, Integer.MIN_VALUE, 0, 1, Integer.MAX_VALUE), 20 * i);
        c.is("feed beyond 700", x.feed(0, 0, 0, 0, 0), -1);
        c.is("count(8)", x.count(8), 700);
        c.is("law(20)", x.law(20), 0);
        c.is("count(4)", x.count(4), 1);
        c.is("the tape is empty behind it", x.count(8), 0);
        c.is("feed", x.feed(0xFF000000, 0, 0, 0, 0), 20);
        c.is("law(1)", x.law(1), -1);
        c.is("fault() of byte 255", x.fault(), 0);
        end(c);
    }

    private static void law() {
        Checks c = new Checks("9 law");
        HemLine x = new HemLine();
        c.is("law(-1)", x.law(-1), -2);
        c.is("law(1)", x.law(1), -2);
        Checks.feed(x, "stay;stay;");
        c.is("law(21)", x.law(21), -2);
        c.is("doing nothing", x.count(8), 20);
        c.is("law(5)", x.law(5), 0);
        c.is("count(8)", x.count(8), 0);
        c.is("count(4)", x.count(4), 1);
        c.is("tell with a fault", Checks.tell(x, "stay"), -1);
        c.is("the tape is empty with a FAULT, too", x.count(8), 0);
        c.is("count(2)", x.count(2), 1);
        c.is("count(3)", x.count(3), 0);
        c.is("law(0) is a law without rules", x.law(0), 1);
        c.is("count(4)", x.count(4), 0);
        c.is("count(3)", x.count(3), 1);
        c.is("law", Checks.tell(x, "stay;stay;stay;"), 2);
        c.is("law", Checks.tell(x, "stay;"), 3);
        c.is("law", Checks.tell(x, "stay;stay;"), 4);
        c.is("count(4)", x.count(4), 2);
        Checks.feed(x, "stay");
        c.is("law(21) of five", x.law(21), -2);
        c.is("law(4) of five", x.law(4), -3);
        c.is("doing nothing", x.count(8), 20);
        c.is("fault() isn't told anew", x.fault(), -1);
        end(c);
    }

    private static HemLine pair() {
        HemLine x = new HemLine();
        x.person(5, 1, 30);
        x.person(5, 1, 20);
        x.sees(0, 1, true);
        x.shows(0, 0);
        return x;
    }

    /** What PERSON 0 of pair() wears behind one SEASON by a LAW. */
    private static int worn(String law) {
        HemLine x = pair();
        if (Checks.tell(x, law) != 0) return -9;
        x.run(1);
        return x.wears(0, 2);
    }

    private static void rules() {
        Checks c = new Checks("9 rules of a law");
        c.is("to within BY", worn("to alike 10;"), 20);
        c.is("to by BY", worn("to alike 9;"), 21);
        c.is("to beyond", worn("to alike 60;"), 20);
        c.is("to by 0", worn("to alike 0;"), 30);
        c.is("from", worn("from alike 11;"), 31);
        c.is("from at BY", worn("from alike 10;"), 30);
        c.is("from held to 60", worn("from alike 60;"), 60);
        c.is("stay", worn("stay;to alike 5;"), 30);
        c.is("no mean of above, so the next rule", worn("to above 5;to alike 4;"), 26);
        c.is("no mean of below", worn("to below 5;from all 12;"), 32);
        c.is("no house", worn("to house 1 5;to house 0 6;"), 24);
        c.is("old isn't recorded", worn("to old 1 5;to alike 1;"), 29);
        c.is("stay stands always", worn("to above 5;stay;to alike 4;"), 30);
        c.is("a rule that doesn't hold", worn("to alike 5 if season > 1;to alike 4;"), 26);
        c.is("no rule holds", worn("to alike 5 if season > 1;"), 30);
        c.is("lines and no blanks", worn("\n to\nalike 3if season=1;"), 27);
        end(c);
        c = new Checks("9 above, below and alike by rank");
        HemLine w = new HemLine();
        int[] ranks = {5, 6, 9, 4, 0, 5};
        for (int i = 0; i < 6; i++) w.person(ranks[i], 0, i * i);
        for (int i = 1; i < 6; i++) w.sees(0, i, true);
        String[] whoms = {"above", "below", "alike", "all"};
        int[] means = {2, 12, 25, 11};
        for (int i = 0; i < 4; i++) {
            Checks.tell(w, "to " + whoms[i] + " 60;");
            c.is(whoms[i], w.wears(0, 6), means[i]);
        }
        end(c);
        c = new Checks("9 from below the mean, held to 0");
        HemLine x = pair();
        x.sees(1, 0, true);
        Checks.tell(x, "from alike 15 if length < 30;");
        x.run(2);
        c.is("wears(1, 2)", x.wears(1, 2), 15);
        x.force(Checks.tell(x, "from alike 45 if length < 30;"));
        x.run(1);
        c.is("wears(1, 2)", x.wears(1, 2), 0);
        end(c);
        c = new Checks("9 old");
        x = Checks.follower(10);
        Checks.walk(x, 20, 30, 40, 50);
        Checks.tell(x, "to old 4 60;");
        c.is("season 0", x.wears(0, 6), 10);
        Checks.tell(x, "to old 5 60;");
        c.is("none", x.wears(0, 6), 50);
        Checks.tell(x, "to old 3 60;");
        c.is("wears(0, 6)", x.wears(0, 6), 20);
        x.run(1);
        c.is("wears(0, 2)", x.wears(0, 2), 20);
        x.run(1);
        c.is("wears(0, 2)", x.wears(0, 2), 30);
        end(c);
    }

    private static void bounds() {
        Checks c = new Checks("9 numbers of a law");
        String[] right = {"to above 60;", "to above 0060;", "to house 3 0;", "to house 0003 0;", "to old 1 5;", "to old 99 5;",
            "stay if coin < 9999;", "stay if coin<0;", Checks.times("stay;", 16), "  \n ", "to above 5if coin=0or rank=0;"};
        for (String text : right) c.is(text, Checks.tell(new HemLine(), text), 0);
        end(c);
    }

    private static int faultOf(String text) {
        HemLine x = new HemLine();
        return Checks.tell(x, text) == -1 ? x.fault() : -9;
    }

    private static void faults() {
        Checks c = new Checks("11 fault");
        Object[][] due = {{"to above 61;", 9}, {"to above 00001;", 9}, {"to house 4 0;", 9}, {"to old 0 5;", 7}, {"to old 100 5;", 7},
            {"stay if coin < 10000;", 15}, {"stay if coin", 12}, {"stay if coin < 5 ", 17}, {"stay if coin 5;", 13}, {"to;", 2},
            {"to ", 3}, {"stay", 4}, {"stay;x", 5}, {"stay;!", 5}, {" stay stay;", 6}, {"toabove 5;", 0}, {"above 5;", 0},
            {"to purse 5;", 3}, {"to house 5;", 9}, {"to house 1;", 10}, {"stay if house = 1;", 8}, {"stay if old = 1;", 8},
            {"stay if (coin<5;", 15}, {"stay if coin<5);", 14}, {"stay if coin<=5;", 13}, {"stay if coin<5 and;", 18},
            {"stay if not;", 11}, {"stay if coin<5 not coin<5;", 15}, {"Stay;", 0}, {"stay\t;", 4}, {"stays;", 0}, {"sta;", 0},
            {"to above -1;", 9}, {"to above 5 5;", 11}, {"stay 5;", 5}, {"stay if coin<5 if coin<5;", 15}, {";", 0}, {"seasons", 0},
            {"stay if seasonx<5;", 8}, {"stay if (coin<5", 15}, {"stay;;", 5}, {"stay if \u00e9oin<5;", 8},
            {"stayz;", 0}, {"ptay;", 0}, {"stay if coinz<5;", 8}, {"stay if join<5;", 8}};
        for (Object[] d : due) c.is((String) d[0], faultOf((String) d[0]), (Integer) d[1]);
        c.is("the 17th rule", faultOf(Checks.times("stay;", 16) + " stay;"), 81);
        c.is("anything for the 17th rule", faultOf(Checks.times("stay;", 16) + "5"), 80);
        end(c);
        c = new Checks("11 fault of the latest law");
        HemLine x = new HemLine();
        Checks.tell(x, "to");
        c.is("fault()", x.fault(), 2);
        c.is("law(-1)", x.law(-1), -2);
        c.is("fault() still", x.fault(), 2);
        Checks.tell(x, "stay;");
        c.is("fault() of none", x.fault(), -1);
        end(c);
    }

    private static void open() {
        Checks c = new Checks("11 eight open, not nine");
        String eight = "stay if " + Checks.times("(", 8) + "coin<5" + Checks.times(")", 8) + ";";
        c.is("eight brackets", Checks.tell(new HemLine(), eight), 0);
        c.is("nine brackets", faultOf(eight.replace("if (", "if ((")), 16);
        c.is("eight nots", Checks.tell(new HemLine(), "stay if " + Checks.times("not ", 8) + "coin<5;"), 0);
        c.is("nine nots", faultOf("stay if " + Checks.times("not ", 9) + "coin<5;"), 40);
        c.is("four of both", Checks.tell(new HemLine(), "stay if " + Checks.times("not(", 4) + "coin<5" + Checks.times(")", 4) + ";"), 0);
        c.is("the ninth of both", faultOf("stay if " + Checks.times("not(", 4) + "not coin<5" + Checks.times(")", 4) + ";"), 24);
        c.is("closed ones don't count", Checks.tell(new HemLine(),
            "stay if " + Checks.times("not (coin<5) and ", 9) + Checks.times("not ", 8) + "coin<5;"), 0);
        end(c);
    }

    private static void conditions() {
        Checks c = new Checks("9 what a law asks");
        String[] yes = {"season=1", "length=30", "purse=7", "coin=7", "rank=5", "money=44", "worn=0", "above=30", "below=10", "alike=0",
            "all=23", "length>29", "length<31", "not length>30", "season=1 or season=2 and season=3", "(season=2 or season=1) and rank=5",
            "not season=2 and rank=5", "not(season=1 and rank=4)", "not not season=1", "season=2 and rank=5 or rank=5",
            "rank=5 or rank=4 and not rank=5", "season=1 and rank=5 and coin=7"};
        String[] no = {"length>30", "length<30", "season=1 and season=2 or season=3", "(season=1 or season=2) and season=3",
            "not season=1", "not(season=1 or rank=4)", "not season=1 and rank=5", "not not not season=1", "alike>0", "season=2 or rank=4"};
        for (String any : yes) c.is(any, Checks.holds(any), true);
        for (String any : no) c.is(any, Checks.holds(any), false);
        end(c);
    }

    private static void force() {
        Checks c = new Checks("10 force");
        HemLine x = pair();
        c.is("force(0) of none", x.force(0), false);
        Checks.tell(x, "to alike 1;");
        Checks.tell(x, "to alike 2;stay;");
        c.is("the one told last", x.wears(0, 6), 28);
        c.is("force(0)", x.force(0), true);
        c.is("count(3)", x.count(3), 0);
        c.is("count(4)", x.count(4), 1);
        c.is("wears(0, 6)", x.wears(0, 6), 29);
        c.is("force(2)", x.force(2), false);
        c.is("force(-1)", x.force(-1), false);
        c.is("count(3)", x.count(3), 0);
        c.is("force(1)", x.force(1), true);
        c.is("wears(0, 6)", x.wears(0, 6), 28);
        x.force(0);
        c.is("count(3)", x.count(3), 0);
        c.is("a fault changes nothing", Checks.tell(x, "x"), -1);
        c.is("count(3)", x.count(3), 0);
        end(c);
    }

    // ---- promises 12 to 15

    /** PERSON 1 (20, purse 4) goes to PERSON 0 (10) by 4 at a PRICE of 5: 20, 20, 16, 12, 10, 10. */
    private static HemLine stairs() {
        HemLine x = new HemLine();
        x.person(5, 10, 10);
        x.person(3, 4, 20);
        x.sees(1, 0, true);
        x.set(5, 0, 0);
        Checks.tell(x, "to above 4;");
        return x;
    }

    private static void seasons() {
        run();
        lines();
        wears();
        tallies();
    }

    private static void run() {
        Checks c = new Checks("12 run");
        HemLine x = new HemLine();
        x.law(0);
        c.is("run(1) without people", x.run(1), -1);
        x = new HemLine();
        x.person(1, 1, 1);
        c.is("run(1) without a law", x.run(1), -1);
        x.law(0);
        c.is("run(0)", x.run(0), -1);
        c.is("run(61)", x.run(61), -1);
        c.is("run(-5)", x.run(-5), -1);
        c.is("count(1)", x.count(1), 0);
        for (int i = 1; i <= 3; i++) c.is("run(60)", x.run(60), 60 * i);
        c.is("run(21)", x.run(21), -1);
        c.is("count(1)", x.count(1), 180);
        c.is("run(20)", x.run(20), 200);
        c.is("run(1)", x.run(1), -1);
        c.is("line(200)", x.line(200), 100);
        c.is("wears(0, 4)", x.wears(0, 4), 200);
        c.is("foretell(50) beyond the last", x.foretell(50), 0);
        c.is("round(100, 0) beyond the last", x.round(100, 0), 1);
        end(c);
    }

    private static void lines() {
        Checks c = new Checks("13 line");
        HemLine x = stairs();
        x.run(5);
        int[] due = {1500, 1500, 1300, 1100, 1000, 1000};
        for (int i = 0; i < due.length; i++) c.is("line(" + i + ")", x.line(i), due[i]);
        c.is("line(6)", x.line(6), -1);
        c.is("line(-1)", x.line(-1), -1);
        HemLine y = new HemLine();
        y.person(1, 1, 1);
        y.person(1, 1, 0);
        y.person(1, 1, 1);
        c.is("line(0) is cut", y.line(0), 66);
        end(c);
        c = new Checks("14 length");
        int[] lengths = {20, 20, 16, 12, 10, 10};
        for (int i = 0; i < lengths.length; i++) c.is("length(1, " + i + ")", x.length(1, i), lengths[i]);
        c.is("length(0, 5)", x.length(0, 5), 10);
        c.is("length(0, 6)", x.length(0, 6), -1);
        c.is("length(0, -1)", x.length(0, -1), -1);
        c.is("length(2, 0)", x.length(2, 0), -1);
        c.is("length(-1, 0)", x.length(-1, 0), -1);
        end(c);
    }

    private static void wears() {
        Checks c = new Checks("15 wears");
        HemLine x = stairs();
        c.is("wears(1, 6) before", x.wears(1, 6), 16);
        x.run(5);
        int[] due = {3, 4, 10, 5, 1, 1, 10, -1, -1, -1, 4, 0, 1, 1, 0, 3, -1};
        for (int i = 0; i < due.length; i++) c.is("wears(1, " + i + ")", x.wears(1, i), due[i]);
        c.is("wears(0, 3)", x.wears(0, 3), 50);
        c.is("wears(0, 4)", x.wears(0, 4), 5);
        c.is("wears(0, 12)", x.wears(0, 12), 5);
        c.is("wears(2, 0)", x.wears(2, 0), -1);
        c.is("wears(-1, 0)", x.wears(-1, 0), -1);
        c.is("wears(1, -1)", x.wears(1, -1), -1);
        HemLine y = new HemLine();
        y.person(1, 1, 1);
        c.is("wears(0, 6) without a law", y.wears(0, 6), -1);
        end(c);
        c = new Checks("15 what it wants is by the next season, chance 0, coin as it is");
        y = new HemLine();
        y.person(1, 9, 30);
        y.shows(0, 60);
        Checks.tell(y, "to house 0 1 if season=1 and chance=0 and coin=0 and worn=0;");
        c.is("wears(0, 6)", y.wears(0, 6), 31);
        Checks.tell(y, "to house 0 2 if season=3 and chance=0 and coin=18 and worn=2;");
        y.run(2);
        c.is("wears(0, 6)", y.wears(0, 6), 32);
        end(c);
        c = new Checks("12 coin grows to 9,999 at most");
        y = new HemLine();
        y.person(1, 99, 30);
        y.law(0);
        y.run(60);
        y.run(40);
        c.is("wears(0, 3)", y.wears(0, 3), 9900);
        y.run(2);
        c.is("wears(0, 3)", y.wears(0, 3), 9999);
        end(c);
    }

    private static void tallies() {
        Checks c = new Checks("15 how it went");
        HemLine x = new HemLine();
        x.person(1, 3, 30);
        x.shows(0, 30);
        x.shows(1, 40);
        x.set(4, 1, 2);
        // 1: from, 5 inches, 3 coins for 4: couldn't pay. 2: from, pays 4 of 6. 3: to by 1, pays 2 of 5.
        // 4: to its own length. 5: from far enough. 6: stay. 7: no rule.
        Checks.tell(x, "from house 0 5 if season<3;to house 1 1 if season=3;to house 1 0 if season=4;from house 0 1 if season=5;stay if season=6;");
        x.run(7);
        int[] due = {1, 2, 4, 1, 1, 1};
        for (int i = 0; i < due.length; i++) c.is("wears(0, " + (10 + i) + ")", x.wears(0, 10 + i), due[i]);
        c.is("wears(0, 2)", x.wears(0, 2), 36);
        c.is("wears(0, 3)", x.wears(0, 3), 21 - 6);
        c.is("wears(0, 4)", x.wears(0, 4), 4);
        end(c);
        c = new Checks("12 all by lengths as they were");
        HemLine y = new HemLine();
        y.person(1, 0, 0);
        y.person(1, 0, 60);
        y.sees(0, 1, true);
        y.sees(1, 0, true);
        Checks.tell(y, "to all 60;");
        y.run(1);
        c.is("wears(0, 2)", y.wears(0, 2), 60);
        c.is("wears(1, 2)", y.wears(1, 2), 0);
        end(c);
    }

    // ---- promises 16, 17, 29, 30

    private static void trials() {
        round();
        pushed();
        foretell();
    }

    private static HemLine swinging() {
        HemLine x = new HemLine();
        x.person(1, 0, 10);
        x.shows(0, 20);
        x.shows(1, 10);
        Checks.tell(x, "to house 0 60 if length=10;to house 1 60;");
        return x;
    }

    private static void round() {
        Checks c = new Checks("16 round");
        HemLine x = swinging();
        c.is("round(2, 0)", x.round(2, 0), 2);
        c.is("round(100, 1)", x.round(100, 1), 2);
        c.is("round(1, 0)", x.round(1, 0), -1);
        c.is("round(1, 1)", x.round(1, 1), -1);
        c.is("nothing is kept", x.count(1), 0);
        c.is("nothing is kept", x.wears(0, 2), 10);
        c.is("nothing is kept", x.wears(0, 10), 0);
        int[][] wrong = {{0, 0}, {101, 0}, {2, 2}, {2, -1}, {-1, 1}};
        for (int[] w : wrong) c.is("wrong round", x.round(w[0], w[1]), -1);
        HemLine y = new HemLine();
        y.law(0);
        c.is("round without people", y.round(2, 0), -1);
        y = new HemLine();
        y.person(1, 1, 1);
        c.is("round without a law", y.round(2, 0), -1);
        y = new HemLine();
        y.person(1, 0, 10);
        y.law(0);
        c.is("round(1, 0)", y.round(1, 0), 1);
        c.is("round(100, 1)", y.round(100, 1), 1);
        y.shows(0, 20);
        y.shows(1, 15);
        Checks.tell(y, "to house 0 5 if length<20;to house 1 60;");
        c.is("10, 15, 20, 15: behind the third", y.round(9, 0), 3);
        c.is("two long", y.round(9, 1), 2);
        end(c);
        c = new Checks("16 lengths of each one, not together");
        y = new HemLine();
        y.person(1, 0, 10);
        y.person(1, 0, 20);
        y.sees(0, 1, true);
        y.sees(1, 0, true);
        Checks.tell(y, "to all 60;");
        c.is("10 and 20 change places", y.round(5, 0), 2);
        end(c);
        c = new Checks("16 a trial of a hundred behind the last season");
        y = new HemLine();
        y.person(1, 0, 0);
        y.person(2, 0, 21);
        y.sees(1, 0, true);
        y.shows(0, 60);
        y.law(0);
        for (int i = 0; i < 5; i++) y.run(40);
        // 60 SEASONS for the one below, then 39 for the other, then none
        Checks.tell(y, "to house 0 1 if rank=1 or below=60;");
        c.is("count(1)", y.count(1), 200);
        c.is("round(99, 0)", y.round(99, 0), -1);
        c.is("round(100, 0)", y.round(100, 0), 100);
        c.is("round(100, 1)", y.round(100, 1), 1);
        y.foretell(50);
        c.is("held(0, 0)", y.held(0, 0), 7100 / 2);
        c.is("held(0, 1)", y.held(0, 1), 250);
        c.is("held(0, 2)", y.held(0, 2), -1);
        end(c);
        c = new Checks("16 a trial uses old, season, chance, coin, worn, and keeps none");
        y = new HemLine();
        y.person(1, 2, 10);
        y.shows(0, 60);
        y.set(3, 0, 0);
        Checks.tell(y, "to old 2 60 if season>3;to house 0 1 if chance<50 and coin>2;");
        y.image();
        y.run(30);
        int[] lengths = new int[31];
        for (int i = 0; i <= 30; i++) lengths[i] = y.length(0, i);
        y.back(0);
        y.round(30, 0);
        y.pushed(30, 3, 50, 0);
        y.foretell(30);
        y.run(30);
        for (int i = 0; i <= 30; i++) c.is("length(0, " + i + ")", y.length(0, i), lengths[i]);
        c.is("held(0, 2)", y.held(0, 2), 0);
        end(c);
    }

    private static void pushed() {
        Checks c = new Checks("17 pushed");
        HemLine x = new HemLine();
        x.person(1, 0, 30);
        x.shows(0, 60);
        x.shows(1, 0);
        x.money(7);
        Checks.tell(x, "to house 0 5 if money>50;to house 1 5;");
        c.is("35, 40, 35, 30", x.pushed(4, 2, 99, 0), 4);
        c.is("how long", x.pushed(9, 2, 99, 1), 4);
        c.is("not within three", x.pushed(3, 2, 99, 0), -1);
        c.is("every three", x.pushed(100, 3, 51, 0), 6);
        c.is("down to 0: six and eight are alike", x.pushed(100, 1, 50, 0), 8);
        c.is("two long", x.pushed(100, 1, 50, 1), 2);
        c.is("money is as it was", x.count(9), 7);
        int[][] wrong = {{0, 1, 1, 0}, {101, 1, 1, 0}, {9, 0, 1, 0}, {9, 21, 1, 0}, {9, 1, -1, 0}, {9, 1, 100, 0}, {9, 1, 1, 2}, {9, 1, 1, -1}};
        for (int[] w : wrong) c.is("wrong pushed", x.pushed(w[0], w[1], w[2], w[3]), -1);
        c.is("turns of 21", x.pushed(100, 21, 0, 0), -1);
        c.is("turns of twenty", x.pushed(100, 20, 0, 0), 46);
        HemLine z = new HemLine();
        z.person(1, 0, 2);
        z.shows(0, 60);
        z.shows(1, 0);
        Checks.tell(z, "to house 0 5 if money>50;to house 1 5;");
        c.is("first the told one: 7, 12, 7, 2", z.pushed(100, 2, 99, 0), 4);
        z.money(99);
        c.is("first the told one: 0, 0, 5, 10, 5, 0", z.pushed(100, 2, 0, 0), 6);
        z.money(0);
        Checks.tell(z, "to house 0 5 if money>50;to house 1 3;");
        // 7, 4, 9, 6 .. 59, 56, 60, 57, 60
        c.is("in turns all along", z.pushed(100, 1, 99, 0), 57);
        c.is("two long", z.pushed(100, 1, 99, 1), 2);
        HemLine y = new HemLine();
        y.law(0);
        c.is("pushed without people", y.pushed(2, 1, 1, 0), -1);
        y = new HemLine();
        y.person(1, 1, 1);
        c.is("pushed without a law", y.pushed(2, 1, 1, 0), -1);
        end(c);
    }

    private static void foretell() {
        Checks c = new Checks("29 foretell");
        HemLine x = new HemLine();
        c.is("without people", x.foretell(1), -1);
        x.person(1, 0, 10);
        c.is("without a law", x.foretell(1), -1);
        x.shows(0, 60);
        Checks.tell(x, "to house 0 2;");
        c.is("foretell(0)", x.foretell(0), -1);
        c.is("foretell(51)", x.foretell(51), -1);
        c.is("foretell(3)", x.foretell(3), 0);
        c.is("foretell(50)", x.foretell(50), 1);
        c.is("nothing is kept", x.count(1), 0);
        c.is("count(6)", x.count(6), 2);
        for (int i = 2; i < 20; i++) c.is("foretell(1)", x.foretell(1), i);
        c.is("the 21st", x.foretell(1), -1);
        c.is("count(6)", x.count(6), 20);
        end(c);
        c = new Checks("30 held");
        c.is("held(0, 0)", x.held(0, 0), 1600);
        c.is("held(0, 1)", x.held(0, 1), 3);
        c.is("held(1, 0)", x.held(1, 0), 6000);
        c.is("held(1, 1)", x.held(1, 1), 50);
        c.is("held(0, 2) before", x.held(0, 2), -1);
        c.is("held(0, 3) before", x.held(0, 3), -1);
        x.run(2);
        x.shows(0, 0);
        c.is("held(0, 2) before", x.held(0, 2), -1);
        x.run(1);
        c.is("line(3)", x.line(3), 1200);
        c.is("held(0, 2)", x.held(0, 2), 400);
        c.is("held(0, 3)", x.held(0, 3), 200);
        x.run(2);
        c.is("held(0, 2) later", x.held(0, 2), 400);
        int[][] wrong = {{20, 0}, {-1, 0}, {0, 4}, {0, -1}};
        for (int[] w : wrong) c.is("wrong held", x.held(w[0], w[1]), -2);
        end(c);
    }

    // ---- promises 18 to 21, 28, 31

    private static void looks() {
        led();
        alone();
        like();
        street();
        again();
        behind();
    }

    private static void led() {
        Checks c = new Checks("18 led");
        HemLine x = new HemLine();
        x.person(5, 0, 10);
        x.person(3, 9, 20);
        x.person(1, 0, 30);
        x.person(3, 0, 14);
        for (int p : new int[] {0, 2, 3}) x.sees(1, p, true);
        Checks.tell(x, "to above 4 if purse=9;stay;");
        x.run(5);
        // 20, 16, 12, 10: always nearer to 10, further from 30; to 14 nearer once, as near, further
        int[] due = {3, 3, 1, 3, -1};
        for (int i = 0; i < due.length; i++) c.is("led(1, " + i + ")", x.led(1, i), due[i]);
        c.is("led(1, -1)", x.led(1, -1), -1);
        c.is("led(4, 0)", x.led(4, 0), -1);
        c.is("led(-1, 0)", x.led(-1, 0), -1);
        c.is("led(0, 3)", x.led(0, 3), 0);
        x.sees(1, 0, false);
        c.is("by whom it sees now", x.led(1, 0), 0);
        c.is("led(1, 1)", x.led(1, 1), 3);
        end(c);
        c = new Checks("18 led by the mean of the season ahead");
        HemLine y = new HemLine();
        y.person(5, 0, 26);
        y.person(3, 0, 20);
        y.sees(1, 0, true);
        y.shows(0, 10);
        y.shows(1, 24);
        Checks.tell(y, "to house 0 60 if rank=5;to house 1 60;");
        y.run(1);
        // 20 to 24, while above went from 26 to 10
        c.is("led(1, 0)", y.led(1, 0), 1);
        end(c);
        c = new Checks("18 as far off isn't nearer nor further");
        HemLine z = new HemLine();
        z.person(3, 9, 20);
        for (int rank : new int[] {5, 1, 3}) z.person(rank, 0, 16);
        for (int p = 1; p < 4; p++) z.sees(0, p, true);
        z.shows(0, 12);
        Checks.tell(z, "to house 0 60 if purse=9;");
        z.run(2);
        int[] none = {0, 0, 0, 1};
        for (int i = 0; i < 4; i++) c.is("led(0, " + i + ")", z.led(0, i), none[i]);
        end(c);
    }

    private static void alone() {
        Checks c = new Checks("19 alone");
        HemLine x = new HemLine();
        x.person(0, 0, 20);
        x.person(1, 0, 22);
        x.shows(0, 30);
        x.shows(1, 22);
        Checks.tell(x, "to house 0 60 if rank=1 and season=1;to house 1 60 if rank=1 and season=3;");
        x.run(4);
        // 20 stays; 22, 30, 30, 22, 22
        c.is("alone(5, 2, 0)", x.alone(5, 2, 0), 2);
        c.is("alone(5, 1, 1)", x.alone(5, 1, 1), 0);
        c.is("alone(5, 1, 2)", x.alone(5, 1, 2), 0);
        c.is("alone(5, 2, 1)", x.alone(5, 2, 1), 1);
        c.is("left before taken in one season", x.alone(5, 2, 2), 1);
        c.is("alone(2, 2, 0)", x.alone(2, 2, 0), 0);
        c.is("alone(3, 2, 0)", x.alone(3, 2, 0), 2);
        c.is("alone(10, 2, 0)", x.alone(10, 2, 0), 2);
        c.is("alone(11, 2, 0)", x.alone(11, 2, 0), 0);
        int[][] wrong = {{0, 1, 0}, {61, 1, 0}, {1, 0, 0}, {1, 21, 0}, {1, 1, 3}, {1, 1, -1}};
        for (int[] w : wrong) c.is("wrong alone", x.alone(w[0], w[1], w[2]), -1);
        c.is("alone(60, 20, 0)", x.alone(60, 20, 0), 0);
        c.is("none are there", new HemLine().alone(1, 1, 0), 0);
        HemLine y = new HemLine();
        y.person(0, 0, 20);
        y.person(1, 0, 22);
        y.shows(0, 30);
        Checks.tell(y, "to house 0 60 if rank=1;");
        y.run(1);
        c.is("a start now", y.alone(5, 20, 0), 2);
        c.is("not taken yet", y.alone(5, 20, 1), 0);
        y.shows(0, 22);
        y.run(1);
        c.is("taken at once", y.alone(5, 1, 1), 1);
        c.is("left at once", y.alone(5, 1, 2), 1);
        end(c);
    }

    private static void like() {
        Checks c = new Checks("20 like");
        HemLine x = Checks.follower(10);
        c.is("like(1, 0) in season 0", x.like(1, 0), -1);
        Checks.walk(x, 20, 11, 30, 10);
        c.is("like(1, 0)", x.like(1, 0), 0);
        c.is("like(1, 1)", x.like(1, 1), 2000);
        Checks.walk(x, 12);
        // 10 20 11 30 10 12: nearest to 12 is 11, a next one of 30, 1 higher
        c.is("like(1, 0)", x.like(1, 0), 2);
        c.is("like(1, 1)", x.like(1, 1), 3100);
        // (10, 12) against (10, 20), (20, 11), (11, 30), (30, 10): 8, 11, 19, 22
        c.is("like(2, 0)", x.like(2, 0), 1);
        c.is("like(2, 1)", x.like(2, 1), 1100 + 1200 - 2000);
        c.is("like(5, 0)", x.like(5, 0), 4);
        c.is("like(6, 0)", x.like(6, 0), -1);
        c.is("like(6, 1)", x.like(6, 1), -1);
        int[][] wrong = {{0, 0}, {11, 0}, {1, 2}, {1, -1}};
        for (int[] w : wrong) c.is("wrong like", x.like(w[0], w[1]), -1);
        c.is("without people", new HemLine().like(1, 0), -1);
        HemLine y = Checks.follower(10);
        Checks.walk(y, 20, 10, 30, 10);
        c.is("of several the latest", y.like(1, 0), 2);
        HemLine w = Checks.follower(50);
        Checks.walk(w, 10, 5, 12, 50, 10);
        c.is("by the lines ahead, too", w.like(2, 0), 1);
        Checks.walk(w, 1, 1, 1, 1, 1, 1, 1, 1, 1);
        c.is("like(10, 0)", w.like(10, 0), 13);
        c.is("like(11, 0)", w.like(11, 0), -1);
        HemLine z = Checks.follower(20);
        Checks.walk(z, 0, 14);
        c.is("a guess below 0", z.like(1, 1), 0 + 1400 - 2000);
        end(c);
    }

    private static void street() {
        Checks c = new Checks("21 street");
        HemLine x = new HemLine();
        c.is("street(NONE, 0) of none", x.street(-1, 0), 0);
        for (int i = 0; i < 6; i++) x.person(i, 1, 10 + i * i);
        x.sees(0, 3, true);
        x.sees(4, 3, true);
        x.sees(2, 1, true);
        c.is("street(NONE, 0)", x.street(-1, 0), 3);
        int[] due = {0, 1, 1, 0, 0, 5};
        for (int i = 0; i < 6; i++) c.is("street(" + i + ", 0)", x.street(i, 0), due[i]);
        c.is("10, 19 and 26", x.street(4, 1), 1833);
        c.is("11 and 14", x.street(1, 1), 1250);
        c.is("35 alone", x.street(5, 1), 3500);
        int[][] wrong = {{-1, 1}, {-1, -1}, {6, 0}, {-2, 0}, {0, 2}, {0, -1}};
        for (int[] w : wrong) c.is("wrong street", x.street(w[0], w[1]), -1);
        HemLine y = new HemLine();
        for (int i = 0; i < 16; i++) y.person(1, 1, 1);
        for (int i = 15; i > 0; i--) y.sees(i % 2 == 0 ? i : i - 1, i % 2 == 0 ? i - 1 : i, true);
        c.is("a long one", y.street(15, 0), 0);
        c.is("a long one", y.street(-1, 0), 1);
        end(c);
    }

    private static void again() {
        Checks c = new Checks("28 again");
        HemLine x = Checks.follower(10);
        Checks.walk(x, 10, 12, 9, 30, 31, 29, 10, 11, 12, 10);
        // of 10: 10 10 - - - - - 10 - - 10
        c.is("visits", x.again(10, 0), 4);
        c.is("rows", x.again(10, 1), 3);
        c.is("the longest way", x.again(10, 2), 5);
        c.is("again(60, 0)", x.again(60, 0), 0);
        c.is("again(60, 1)", x.again(60, 1), 0);
        c.is("again(60, 2)", x.again(60, 2), 0);
        c.is("one row only", x.again(30, 1), 1);
        c.is("one row has no way", x.again(30, 2), 0);
        int[][] wrong = {{-1, 0}, {61, 0}, {10, 3}, {10, -1}};
        for (int[] w : wrong) c.is("wrong again", x.again(w[0], w[1]), -1);
        c.is("without people", new HemLine().again(10, 0), -1);
        HemLine z = Checks.follower(0);
        c.is("again(0, 0)", z.again(0, 0), 1);
        c.is("a row of season 0", z.again(0, 1), 1);
        Checks.walk(z, 20, 0);
        c.is("again(0, 1)", z.again(0, 1), 2);
        c.is("again(0, 2)", z.again(0, 2), 1);
        HemLine y = new HemLine();
        for (int i = 0; i < 10; i++) y.person(1, 1, i == 0 ? 11 : 10);
        c.is("less than 100 off", y.again(11, 0), 1);
        c.is("less than 100 off", y.again(10, 0), 1);
        c.is("less than 100 off", y.again(9, 0), 0);
        end(c);
    }

    private static void behind() {
        Checks c = new Checks("31 behind");
        HemLine x = new HemLine();
        c.is("without people", x.behind(0, 0), -1);
        x.person(1, 0, 10);
        x.person(1, 5, 20);
        x.person(1, 6, 36);
        // LINE 2200
        int[][] due = {{5, 1200 + 200, 2, 1400, 1}, {4, 1200, 1, 1600, 2}, {99, 2800, 3, 0, 0}, {0, 1200, 1, 1600, 2}};
        for (int[] d : due) for (int i = 0; i < 4; i++) c.is("behind(" + d[0] + ", " + i + ")", x.behind(d[0], i), d[i + 1]);
        int[][] wrong = {{-1, 0}, {100, 0}, {1, 4}, {1, -1}};
        for (int[] w : wrong) c.is("wrong behind", x.behind(w[0], w[1]), -1);
        end(c);
    }

    // ---- promises 22 to 25

    private static void houses() {
        followed();
        luck();
        claim();
        best();
    }

    private static void followed() {
        Checks c = new Checks("22 followed");
        HemLine x = Checks.follower(10);
        c.is("followed(1, 0) in season 0", x.followed(1, 0), 0);
        x.shows(1, 30);
        Checks.walk(x, 20, 20, 25, 35);
        c.is("20 nearer, 20 not, 25 nearer, 35 as near", x.followed(1, 0), 2);
        c.is("of four", x.followed(1, 1), 4);
        x.shows(1, -1);
        Checks.walk(x, 30);
        c.is("it didn't show", x.followed(1, 1), 4);
        c.is("followed(0, 0)", x.followed(0, 0), 4);
        c.is("followed(0, 1)", x.followed(0, 1), 5);
        c.is("followed(2, 0)", x.followed(2, 0), 0);
        int[][] wrong = {{4, 0}, {-1, 0}, {0, 2}, {0, -1}};
        for (int[] w : wrong) c.is("wrong followed", x.followed(w[0], w[1]), -1);
        end(c);
    }

    private static void luck() {
        Checks c = new Checks("23 luck");
        HemLine x = Checks.follower(10);
        x.shows(1, 30);
        c.is("none with a next season", x.luck(1, 0), -1);
        Checks.walk(x, 20, 15);
        // both are followed in season 0, HOUSE 0 alone in season 1
        c.is("luck(0, 0)", x.luck(0, 0), 2);
        c.is("luck(0, 1)", x.luck(0, 1), 4);
        c.is("luck(1, 0)", x.luck(1, 0), 4);
        c.is("luck(1, 1)", x.luck(1, 1), 4);
        c.is("luck(2, 0)", x.luck(2, 0), -1);
        int[][] wrong = {{4, 0}, {-1, 0}, {0, 2}, {0, -1}};
        for (int[] w : wrong) c.is("wrong luck", x.luck(w[0], w[1]), -1);
        end(c);
        c = new Checks("23 luck of the last twelve");
        HemLine y = Checks.follower(10);
        y.shows(1, 0);
        y.shows(2, 1);
        y.shows(3, 60);
        Checks.walk(y, 9, 8, 7, 6, 7, 8, 9, 10, 11, 12, 13, 14, 15, 16, 17, 18);
        // HOUSES 1 and 2 are followed in the first four SEASONS, in none of the last twelve
        c.is("followed(1, 0)", y.followed(1, 0), 4);
        c.is("luck(1, 0)", y.luck(1, 0), 1 << 24);
        c.is("luck(1, 1)", y.luck(1, 1), 1 << 24);
        // HOUSES 0 and 3 in all of the last twelve: two ways in each
        c.is("luck(0, 0)", y.luck(0, 0), 1 << 12);
        end(c);
    }

    private static HemLine market() {
        HemLine x = Checks.follower(10);
        int[] moneys = {5, 7, 6, 6, 9};
        int[] next = {12, 11, 15, 15};
        for (int i = 0; i < 4; i++) {
            x.money(moneys[i]);
            Checks.walk(x, next[i]);
        }
        x.money(9);
        return x;
    }

    private static void claim() {
        Checks c = new Checks("24 claim");
        HemLine x = market();
        // MONEY + - 0 +, LINE + - + 0
        int[][] due = {{2, 2, 1}, {0, 2, 4}, {1, 1, 1}, {0, 0, 1}};
        for (int lag = 0; lag < 4; lag++) for (int i = 0; i < 3; i++) c.is("claim(" + lag + ", " + i + ")", x.claim(lag, i), due[lag][i]);
        c.is("claim(9, 1)", x.claim(9, 1), 0);
        int[][] wrong = {{-1, 0}, {10, 0}, {0, 3}, {0, -1}};
        for (int[] w : wrong) c.is("wrong claim", x.claim(w[0], w[1]), -1);
        end(c);
        c = new Checks("24 claim of the last forty");
        HemLine y = Checks.follower(30);
        int money = 50;
        y.money(money);
        // five couples apart, 37 together, three apart: the first five count no more
        for (int s = 1; s <= 45; s++) {
            boolean up = s % 2 == 1;
            boolean together = s > 5 && s <= 42;
            Checks.walk(y, up ? 31 : 30);
            money += up == together ? 1 : -1;
            y.money(money);
        }
        c.is("claim(0, 0)", y.claim(0, 0), 37);
        c.is("claim(0, 1)", y.claim(0, 1), 40);
        c.is("claim(0, 2)", y.claim(0, 2), 9880 + 780 + 40 + 1);
        end(c);
    }

    private static void best() {
        Checks c = new Checks("25 best");
        HemLine x = market();
        c.is("1 in 4 before 1 in 2 and 4 in 4", x.best(), 0);
        HemLine y = Checks.follower(10);
        c.is("none", y.best(), -1);
        y.money(1);
        Checks.walk(y, 10, 10);
        y.money(2);
        c.is("no couple yet", y.best(), -1);
        Checks.walk(y, 10, 11, 12, 12);
        // MONEY goes up at season 2, LINE at 4 and 5: lags 2 and 3 are alike
        c.is("of several the least", y.best(), 2);
        end(c);
        c = new Checks("25 best by parts, not by how many rows");
        HemLine z = Checks.follower(10);
        // MONEY goes up five times at 1 to 5, the LINE at 2 to 6 but once: lag 1 has 6 in 32; lag 4 a couple: 1 in 2
        for (int i = 0; i < 6; i++) {
            z.money(10 + i);
            Checks.walk(z, new int[] {10, 11, 12, 13, 12, 13}[i]);
        }
        c.is("claim(1, 2)", z.claim(1, 2), 6);
        c.is("claim(1, 1)", z.claim(1, 1), 5);
        c.is("claim(4, 2)", z.claim(4, 2), 3);
        c.is("best()", z.best(), 1);
        HemLine w = Checks.follower(10);
        Checks.walk(w, 10);
        w.money(1);
        Checks.walk(w, 10, 10, 10, 10, 10, 10, 10, 10, 11);
        c.is("the last lag", w.best(), 9);
        end(c);
    }

    // ---- promises 26, 27

    private static void papers() {
        Checks c = new Checks("26 plate");
        HemLine x = new HemLine();
        int[][] wrong = {{-1, 0, 0}, {4, 0, 0}, {0, -1, 0}, {0, 201, 0}, {0, 0, -1}, {0, 0, 61}};
        for (int[] w : wrong) c.is("wrong plate", x.plate(w[0], w[1], w[2]), -1);
        c.is("plate(3, 200, 60)", x.plate(3, 200, 60), 1);
        for (int i = 2; i <= 60; i++) c.is("plate", x.plate(0, 0, 0), i);
        c.is("the 61st", x.plate(0, 0, 0), -1);
        c.is("count(5)", x.count(5), 60);
        end(c);
        c = new Checks("27 off");
        HemLine y = new HemLine();
        c.is("without people", y.off(0, 0), -1);
        y.person(1, 0, 10);
        y.person(1, 0, 21);
        y.shows(0, 60);
        Checks.tell(y, "to house 0 1 if season=1;");
        y.plate(2, 0, 21);
        y.plate(2, 0, 22);
        y.plate(2, 1, 10);
        y.plate(2, 1, 11);
        y.plate(2, 2, 12);
        y.plate(1, 0, 0);
        // LINE 1550, then 1650
        c.is("off(2, 0) in season 0", y.off(2, 0), 550 + 650);
        c.is("off(2, 1)", y.off(2, 1), 2);
        c.is("off(2, 2)", y.off(2, 2), 1);
        y.run(1);
        c.is("off(2, 0)", y.off(2, 0), 1200 + 650 + 550);
        c.is("off(2, 1)", y.off(2, 1), 4);
        c.is("off(2, 2)", y.off(2, 2), 2);
        c.is("off(1, 0)", y.off(1, 0), 1550);
        c.is("off(0, 1)", y.off(0, 1), 0);
        HemLine z = new HemLine();
        z.person(1, 0, 0);
        z.plate(0, 0, 1);
        z.plate(0, 0, 0);
        c.is("above all that's worn", z.off(0, 2), 1);
        int[][] bad = {{-1, 0}, {4, 0}, {2, 3}, {2, -1}};
        for (int[] w : bad) c.is("wrong off", y.off(w[0], w[1]), -1);
        end(c);
    }

    // ---- promises 32, 33

    private static void shops() {
        shop();
        read();
    }

    private static void shop() {
        Checks c = new Checks("32 shop");
        HemLine x = new HemLine();
        x.law(0);
        c.is("without people", x.shop(1, 0), -1);
        HemLine y = new HemLine();
        for (int length : new int[] {5, 4, 20, 40, 43}) y.person(1, 0, length);
        c.is("without a law", y.shop(1, 0), -1);
        y.law(0);
        int[][] due = {{1, 15 + 16 + 20 + 23, 20}, {2, 1 + 15 + 3, 5, 40}, {3, 4, 4, 20, 40}, {4, 1, 4, 20, 40, 43}, {5, 0, 4, 5, 20, 40, 43},
            {6, 0, 0, 4, 5, 20, 40, 43}};
        for (int[] d : due) {
            c.is("shop(" + d[0] + ", 0)", y.shop(d[0], 0), d[1]);
            for (int i = 0; i < d[0]; i++) c.is("shop(" + d[0] + ", " + (10 + i) + ")", y.shop(d[0], 10 + i), d[2 + i]);
            c.is("no such length", y.shop(d[0], 10 + d[0]), -1);
        }
        int[][] wrong = {{0, 0}, {7, 0}, {2, 1}, {2, 9}, {2, -1}, {0, 10}};
        for (int[] w : wrong) c.is("wrong shop", y.shop(w[0], w[1]), -1);
        HemLine w = new HemLine();
        for (int length : new int[] {0, 1, 60, 59}) w.person(1, 0, length);
        w.law(0);
        int[][] ends = {{2, 2, 0, 59}, {3, 1, 0, 1, 59}, {4, 0, 0, 1, 59, 60}, {1, 58 + 60, 1}};
        for (int[] d : ends) {
            c.is("shop(" + d[0] + ", 0)", w.shop(d[0], 0), d[1]);
            for (int i = 0; i < d[0]; i++) c.is("shop(" + d[0] + ", " + (10 + i) + ")", w.shop(d[0], 10 + i), d[2 + i]);
        }
        end(c);
        c = new Checks("32 shop by what people want");
        HemLine z = new HemLine();
        z.person(1, 9, 60);
        z.person(1, 9, 60);
        z.shows(0, 0);
        Checks.tell(z, "to house 0 5 if chance=0 and coin=0 and season=1;");
        c.is("shop(1, 10)", z.shop(1, 10), 55);
        c.is("shop(2, 10)", z.shop(2, 10), 0);
        c.is("shop(2, 11)", z.shop(2, 11), 55);
        end(c);
    }

    private static void read() {
        Checks c = new Checks("33 read");
        HemLine x = new HemLine();
        c.is("read(NONE) without laws", x.read(-1), -1);
        x.person(1, 0, 0);
        x.shows(0, 60);
        Checks.tell(x, "stay;");
        Checks.tell(x, "to house 0 3;");
        Checks.tell(x, "to house 0 2;");
        c.is("read(0) in season 0", x.read(0), 0);
        c.is("of several the first", x.read(-1), 0);
        x.run(1);
        c.is("two inches in season 1", x.read(0), 2);
        x.run(24);
        c.is("two inches in each of the last twenty", x.read(0), 40);
        c.is("read(1)", x.read(1), 20);
        c.is("read(2)", x.read(2), 0);
        c.is("read(NONE)", x.read(-1), 2);
        c.is("read(3)", x.read(3), -1);
        c.is("read(-2)", x.read(-2), -1);
        end(c);
        c = new Checks("33 read by all as it was");
        HemLine y = new HemLine();
        y.person(4, 3, 10);
        y.person(6, 2, 30);
        y.sees(0, 1, true);
        y.set(7, 1, 2);
        Checks.tell(y, "to house 0 4 if chance<50 and money>5;from above 21 if worn>2 or coin>20;to house 1 1 if season>7;to old 3 2;");
        for (int i = 0; i < 12; i++) {
            y.money(3 * i % 14);
            y.shows(i % 2, 5 * i);
            y.run(2);
        }
        // what it WANTS by the LAW in force is what it wore, but where it couldn't pay: so read a street that pays all
        HemLine z = new HemLine();
        z.person(4, 3, 10);
        z.person(6, 2, 30);
        z.sees(0, 1, true);
        Checks.tell(z, "to house 0 4 if chance<50 and money>5;from above 21 if worn>2 or coin>20;to house 1 1 if season>7;to old 3 2;");
        for (int i = 0; i < 12; i++) {
            z.money(3 * i % 14);
            z.shows(i % 2, 5 * i);
            z.run(2);
        }
        c.is("read(0)", z.read(0), 0);
        c.is("one who can't pay is off", y.wears(0, 13) + y.wears(1, 13) > 0 && y.read(0) > 0, true);
        end(c);
    }

    // ---- promises 34 to 36

    private static void images() {
        Checks c = new Checks("34 image");
        HemLine x = new HemLine();
        for (int i = 0; i < 3; i++) c.is("image()", x.image(), i);
        c.is("the fourth", x.image(), -1);
        c.is("count(7)", x.count(7), 3);
        end(c);
        back();
        count();
    }

    private static void back() {
        Checks c = new Checks("35 back");
        HemLine x = stairs();
        c.is("back(0) of none", x.back(0), false);
        x.shows(2, 8);
        x.money(3);
        x.seed(77);
        x.run(3);
        x.foretell(2);
        x.image();
        int[] before = answers(x);
        x.run(2);
        x.shows(2, 9);
        x.shows(1, 1);
        x.money(4);
        x.set(1, 1, 1);
        x.seed(5);
        x.sees(1, 0, false);
        x.sees(0, 1, true);
        x.foretell(2);
        x.run(2);
        c.is("back(1)", x.back(1), false);
        c.is("back(-1)", x.back(-1), false);
        c.is("count(1)", x.count(1), 7);
        for (int turn = 0; turn < 2; turn++) {
            c.is("back(0)", x.back(0), true);
            int[] behind = answers(x);
            for (int i = 0; i < before.length; i++) c.is("answer " + i, behind[i], before[i]);
            x.run(2);
            c.is("the same goes on", x.wears(1, 2), 10);
            c.is("the same goes on", x.wears(1, 3), 5);
            c.is("what was foretold is held", x.held(0, 2), 0);
        }
        end(c);
        c = new Checks("35 back to the people of an image, and others told then");
        HemLine z = new HemLine();
        z.person(7, 70, 10);
        z.image();
        z.person(3, 4, 20);
        z.person(6, 5, 30);
        z.sees(1, 0, true);
        z.sees(2, 1, true);
        Checks.tell(z, "to above 4;");
        z.foretell(1);
        z.foretell(2);
        z.foretell(3);
        z.image();
        z.run(3);
        z.foretell(4);
        z.back(0);
        c.is("count(0)", z.count(0), 1);
        c.is("count(6)", z.count(6), 0);
        c.is("person", z.person(2, 8, 40), 1);
        int[] fresh = {2, 8, 40, 0, 0, 0};
        for (int i = 0; i < 6; i++) c.is("wears(1, " + i + ")", z.wears(1, i), fresh[i]);
        for (int i = 10; i < 16; i++) c.is("wears(1, " + i + ")", z.wears(1, i), 0);
        c.is("line(0)", z.line(0), 2500);
        c.is("back(1)", z.back(1), true);
        int[][] kept = {{7, 70, 10, 0, 0, 0}, {3, 4, 20, 0, 0, 1}, {6, 5, 30, 0, 0, 2}};
        for (int p = 0; p < 3; p++) for (int i = 0; i < 6; i++) c.is("wears(" + p + ", " + i + ")", z.wears(p, i), kept[p][i]);
        int[] foretold = {1866, 1733, 1666};
        for (int k = 0; k < 3; k++) c.is("held(" + k + ", 0)", z.held(k, 0), foretold[k]);
        for (int k = 0; k < 3; k++) c.is("held(" + k + ", 1)", z.held(k, 1), k + 1);
        z.run(3);
        for (int k = 0; k < 3; k++) c.is("held(" + k + ", 3)", z.held(k, 3), 2000 - foretold[k]);
        end(c);
        c = new Checks("35 back, but laws, plates and the tape");
        HemLine y = new HemLine();
        y.person(1, 1, 10);
        Checks.tell(y, "stay;");
        y.image();
        Checks.tell(y, "stay;stay;");
        Checks.tell(y, "x");
        y.plate(0, 0, 5);
        Checks.feed(y, "stay;");
        y.image();
        c.is("back(0)", y.back(0), true);
        int[] due = {1, 0, 2, 1, 2, 1, 0, 2, 20, 0};
        for (int i = 0; i < due.length; i++) c.is("count(" + i + ")", y.count(i), due[i]);
        c.is("off(0, 1)", y.off(0, 1), 1);
        c.is("fault()", y.fault(), 0);
        c.is("back(1)", y.back(1), true);
        end(c);
    }

    private static int[] answers(HemLine x) {
        int[] all = new int[80];
        int n = 0;
        for (int p = 0; p < 2; p++) for (int i = 0; i < 16; i++) all[n++] = x.wears(p, i);
        for (int i : new int[] {0, 1, 6, 9, 10, 11, 12, 13}) all[n++] = x.count(i);
        for (int s = 0; s < 8; s++) all[n++] = x.line(s);
        for (int i = 0; i < 4; i++) all[n++] = x.held(0, i);
        for (int i = 0; i < 2; i++) all[n++] = x.followed(2, i);
        all[n++] = x.street(-1, 0);
        all[n++] = x.held(1, 0);
        return all;
    }

    private static void count() {
        Checks c = new Checks("36 count");
        HemLine x = Checks.follower(10);
        Checks.tell(x, "stay;to all 5;");
        x.force(0);
        x.run(2);
        x.plate(1, 1, 1);
        x.foretell(1);
        x.foretell(1);
        x.image();
        Checks.feed(x, "x");
        x.money(31);
        for (int h = 0; h < 4; h++) x.shows(h, 20 + h);
        int[] due = {1, 2, 2, 0, 1, 1, 2, 1, 20, 31, 20, 21, 22, 23, -1};
        for (int i = 0; i < due.length; i++) c.is("count(" + i + ")", x.count(i), due[i]);
        c.is("count(-1)", x.count(-1), -1);
        c.is("count far off", x.count(Integer.MIN_VALUE), -1);
        end(c);
    }
}
