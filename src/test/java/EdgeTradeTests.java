/** The bounds that promises 26, 27, 32 and 33 name, each sentence in a test of its own. */
public final class EdgeTradeTests {
    private static final int LOW = Integer.MIN_VALUE;
    private static final int HIGH = Integer.MAX_VALUE;

    public static void main(String[] args) {
        Edge edge = new Edge();
        plate(edge);
        off(edge);
        shop(edge);
        shopRows(edge);
        read(edge);
        edge.end();
    }

    private static void plate(Edge edge) {
        edge.of("26 PAPERS 0 to 3", c -> {
            HemLine x = new HemLine();
            for (int paper : new int[] {-1, 4, LOW, HIGH}) c.is("plate(" + paper + ", 0, 0)", x.plate(paper, 0, 0), -1);
            for (int paper = 0; paper < 4; paper++) c.is("plate(" + paper + ", 0, 0)", x.plate(paper, 0, 0), paper + 1);
            x.person(1, 1, 1);
            for (int paper = 0; paper < 4; paper++) c.is("off(" + paper + ", 1)", x.off(paper, 1), 1);
        });
        edge.of("26 SEASON 0 to 200", c -> {
            HemLine x = new HemLine();
            for (int season : new int[] {-1, 201, LOW, HIGH}) c.is("plate(0, " + season + ", 0)", x.plate(0, season, 0), -1);
            c.is("plate(0, 0, 0)", x.plate(0, 0, 0), 1);
            c.is("plate(0, 200, 0)", x.plate(0, 200, 0), 2);
            x.person(1, 1, 7);
            x.law(0);
            c.is("SEASON 0 is RECORDED", x.off(0, 1), 1);
            for (int i = 0; i < 4; i++) {
                c.is("SEASON 200 isn't yet", x.off(0, 1), 1);
                x.run(50);
            }
            c.is("SEASON 200 is RECORDED", x.off(0, 1), 2);
        });
        edge.of("26 a LENGTH 0 to 60", c -> {
            HemLine x = new HemLine();
            for (int length : new int[] {-1, 61, LOW, HIGH}) c.is("plate(0, 0, " + length + ")", x.plate(0, 0, length), -1);
            c.is("plate(0, 0, 0)", x.plate(0, 0, 0), 1);
            c.is("plate(0, 0, 60)", x.plate(0, 0, 60), 2);
            x.person(1, 1, 10);
            c.is("off(0, 0)", x.off(0, 0), 1000 + 5000);
        });
        edge.of("26 up to 60: how many there are", c -> {
            HemLine x = new HemLine();
            for (int i = 1; i <= 60; i++) c.is("plate", x.plate(i % 4, i, i), i);
            c.is("count(5)", x.count(5), 60);
            c.is("the 61st", x.plate(0, 0, 0), -1);
            c.is("the 61st", x.plate(3, 200, 60), -1);
            c.is("count(5)", x.count(5), 60);
        });
        edge.of("26 doing nothing: not as told", c -> {
            HemLine x = EdgePeopleTests.town();
            int[][] wrong = {{-1, 1, 1}, {4, 1, 1}, {1, -1, 1}, {1, 201, 1}, {1, 1, -1}, {1, 1, 61}};
            for (int[] w : wrong) c.is("wrong plate", x.plate(w[0], w[1], w[2]), -1);
            c.untouched("plate", x, EdgePeopleTests.town());
        });
        edge.of("26 doing nothing: 60 are there", c -> {
            HemLine[] both = {EdgePeopleTests.town(), EdgePeopleTests.town()};
            for (HemLine y : both) for (int i = 1; i < 60; i++) y.plate(i % 4, i % 7, i);
            for (int paper = 0; paper < 4; paper++) c.is("the 61st", both[0].plate(paper, 0, 9), -1);
            c.untouched("plate", both[0], both[1]);
        });
        edge.of("26 a PLATE twice counts twice", c -> {
            HemLine x = new HemLine();
            x.person(1, 1, 10);
            c.is("once", x.plate(2, 0, 12), 1);
            c.is("twice", x.plate(2, 0, 12), 2);
            c.is("off(2, 0)", x.off(2, 0), 400);
            c.is("off(2, 1)", x.off(2, 1), 2);
        });
    }

    private static void off(Edge edge) {
        edge.of("27 none such", c -> {
            HemLine x = Checks.follower(10);
            for (int paper = 0; paper < 4; paper++) x.plate(paper, 0, 10);
            for (int paper : new int[] {-1, 4, LOW, HIGH}) for (int what = 0; what < 3; what++) c.is("off(" + paper + ", " + what + ")", x.off(paper, what), -1);
            for (int what : new int[] {-1, 3, LOW, HIGH}) for (int paper = 0; paper < 4; paper++) c.is("off(" + paper + ", " + what + ")", x.off(paper, what), -1);
            int[] due = {0, 1, 1};
            for (int paper = 0; paper < 4; paper++) for (int what = 0; what < 3; what++) c.is("off(" + paper + ", " + what + ")", x.off(paper, what), due[what]);
        });
        edge.of("27 no PEOPLE", c -> {
            HemLine x = new HemLine();
            x.plate(0, 0, 10);
            for (int what = 0; what < 3; what++) c.is("off(0, " + what + ")", x.off(0, what), -1);
            x.person(1, 1, 1);
            c.is("with one", x.off(0, 0), 900);
        });
        edge.of("27 without PLATES", c -> {
            HemLine x = Checks.follower(10);
            x.plate(1, 0, 10);
            for (int what = 0; what < 3; what++) c.is("off(0, " + what + ")", x.off(0, what), 0);
        });
        edge.of("27 its PLATES with a RECORDED SEASON: up to now", c -> {
            HemLine x = Checks.follower(10);
            for (int s = 0; s < 5; s++) x.plate(2, s, 20);
            for (int s = 0; s < 5; s++) {
                c.is("off(2, 1) in " + s, x.off(2, 1), s + 1);
                c.is("off(2, 0) in " + s, x.off(2, 0), 1000 * (s + 1) - 100 * (s * (s + 1) / 2));
                Checks.walk(x, 11 + s);
            }
            x.round(20, 0);
            c.is("a TRIAL's SEASONS aren't", x.off(2, 1), 5);
        });
        edge.of("27 how far, above and below the LINE", c -> {
            HemLine x = Checks.dancers(10, 11);
            x.plate(0, 0, 10);
            c.is("below", x.off(0, 0), 50);
            x.plate(1, 0, 11);
            c.is("above", x.off(1, 0), 50);
            x.plate(0, 0, 11);
            c.is("together, not against each other", x.off(0, 0), 100);
            c.is("within", x.off(0, 2), 2);
        });
        edge.of("27 within the least and greatest LENGTH worn", c -> {
            HemLine x = Checks.dancers(10, 30, 20);
            for (int length : new int[] {9, 10, 11, 20, 29, 30, 31}) x.plate(0, 0, length);
            c.is("off(0, 1)", x.off(0, 1), 7);
            c.is("10 to 30", x.off(0, 2), 5);
            Checks.step(x, 40, 50, 45);
            c.is("worn in that SEASON, not now", x.off(0, 2), 5);
            x.plate(1, 1, 39);
            x.plate(1, 1, 51);
            c.is("neither", x.off(1, 2), 0);
            x.plate(1, 1, 40);
            x.plate(1, 1, 50);
            c.is("both ends", x.off(1, 2), 2);
        });
        edge.of("27 within 0 to 60, and of one PERSON", c -> {
            HemLine x = Checks.dancers(0, 60);
            x.plate(0, 0, 0);
            x.plate(0, 0, 60);
            c.is("0 and 60", x.off(0, 2), 2);
            HemLine z = Checks.dancers(0, 0);
            z.plate(0, 0, 1);
            c.is("1 is above 0", z.off(0, 2), 0);
            HemLine w = Checks.dancers(60, 60);
            w.plate(0, 0, 59);
            c.is("59 is below 60", w.off(0, 2), 0);
            HemLine y = Checks.follower(30);
            for (int length = 29; length <= 31; length++) y.plate(0, 0, length);
            c.is("30 alone", y.off(0, 2), 1);
        });
    }

    /** PEOPLE who stay at their LENGTHS. */
    private static HemLine stayers(int... lengths) {
        HemLine x = new HemLine();
        for (int length : lengths) x.person(1, 0, length);
        x.law(0);
        return x;
    }

    private static void ordered(Checks c, HemLine x, int k, int off, int... row) {
        c.is("shop(" + k + ", 0)", x.shop(k, 0), off);
        for (int i = 0; i < k; i++) c.is("shop(" + k + ", " + (10 + i) + ")", x.shop(k, 10 + i), row[i]);
    }

    private static void shop(Edge edge) {
        edge.of("32 SHOP of k (1 to 6)", c -> {
            HemLine x = stayers(10, 20);
            for (int k : new int[] {0, -1, 7, LOW, HIGH}) for (int what : new int[] {0, 10, 11, 15, 16}) c.is("shop(" + k + ", " + what + ")", x.shop(k, what), -1);
            ordered(c, x, 1, 10, 10);
            ordered(c, x, 6, 0, 0, 1, 2, 3, 10, 20);
        });
        edge.of("32 what 0, 10 + i the i-th LENGTH", c -> {
            HemLine x = stayers(1, 2, 3, 4, 5, 6);
            for (int k = 1; k <= 6; k++) {
                for (int what : new int[] {-1, 1, 2, 9, 10 + k, 11 + k, 16, LOW, HIGH}) c.is("shop(" + k + ", " + what + ")", x.shop(k, what), -1);
                c.is("shop(" + k + ", 0)", x.shop(k, 0) >= 0, true);
                for (int i = 0; i < k; i++) c.is("shop(" + k + ", " + (10 + i) + ")", x.shop(k, 10 + i) >= 0, true);
            }
        });
        edge.of("32 no PEOPLE, no LAW", c -> {
            HemLine x = new HemLine();
            for (int what : new int[] {0, 10}) c.is("neither", x.shop(1, what), -1);
            x.law(0);
            for (int what : new int[] {0, 10}) c.is("no PEOPLE", x.shop(1, what), -1);
            HemLine y = new HemLine();
            y.person(1, 1, 1);
            for (int what : new int[] {0, 10}) c.is("no LAW", y.shop(1, what), -1);
        });
        edge.of("32 what PEOPLE WANT for the next SEASON, CHANCE 0, COIN as it is now", c -> {
            HemLine x = new HemLine();
            x.person(1, 9, 10);
            x.person(2, 9, 50);
            x.shows(0, 30);
            x.shows(1, 40);
            Checks.tell(x, "to house 0 60 if season=1 and chance=0 and coin=0 and rank=1;to house 1 60 if season=2 and chance=0 and coin=9;");
            ordered(c, x, 2, 0, 30, 50);
            x.run(1);
            int now = x.wears(0, 2);
            ordered(c, x, 1, 0, 40);
            c.is("asking changes nothing", x.wears(0, 2), now);
            c.is("count(1)", x.count(1), 1);
        });
        edge.of("32 whether it can be paid or not", c -> {
            HemLine x = Checks.follower(10);
            x.set(999, 0, 0);
            x.shows(0, 60);
            ordered(c, x, 1, 0, 60);
        });
        edge.of("32 in SEASON 200", c -> {
            HemLine x = stayers(10, 20);
            for (int i = 0; i < 4; i++) x.run(50);
            x.shows(0, 60);
            Checks.tell(x, "to house 0 5 if season=201;");
            ordered(c, x, 2, 0, 15, 25);
        });
    }

    private static void shopRows(Edge edge) {
        edge.of("32 LENGTHS 0 to 60", c -> {
            ordered(c, stayers(0), 1, 0, 0);
            ordered(c, stayers(60), 1, 0, 60);
            ordered(c, stayers(0, 60), 2, 0, 0, 60);
            ordered(c, stayers(55, 56, 57, 58, 59, 60), 6, 0, 55, 56, 57, 58, 59, 60);
            ordered(c, stayers(0, 1, 2, 3, 4, 5), 6, 0, 0, 1, 2, 3, 4, 5);
            ordered(c, stayers(60), 6, 0, 0, 1, 2, 3, 4, 60);
            ordered(c, stayers(0), 6, 0, 0, 1, 2, 3, 4, 5);
        });
        edge.of("32 each higher than the one ahead, though all want the same", c -> {
            ordered(c, stayers(7, 7, 7), 1, 0, 7);
            ordered(c, stayers(7, 7, 7), 2, 0, 0, 7);
            ordered(c, stayers(7, 7, 7), 3, 0, 0, 1, 7);
            ordered(c, stayers(2, 2, 2), 6, 0, 0, 1, 2, 3, 4, 5);
            ordered(c, stayers(3, 3, 9), 6, 0, 0, 1, 2, 3, 4, 9);
        });
        edge.of("32 least off together, each by the nearest one", c -> {
            ordered(c, stayers(10, 13, 40), 1, 3 + 27, 13);
            ordered(c, stayers(10, 13, 40), 2, 3, 10, 40);
            ordered(c, stayers(10, 13, 40), 3, 0, 10, 13, 40);
            ordered(c, stayers(0, 0, 0, 60), 1, 60, 0);
            ordered(c, stayers(0, 60, 60, 60), 1, 60, 60);
            ordered(c, stayers(10, 20, 30), 2, 10, 10, 20);
        });
        edge.of("32 of several rows the least, by the first that differ", c -> {
            ordered(c, stayers(10, 20), 1, 10, 10);
            ordered(c, stayers(0, 60), 1, 60, 0);
            ordered(c, stayers(10, 12, 30, 32), 2, 4, 10, 30);
            ordered(c, stayers(10, 11, 12), 2, 1, 10, 11);
            ordered(c, stayers(5, 5, 6, 6), 1, 2, 5);
            ordered(c, stayers(10, 20, 21, 40), 3, 1, 10, 20, 40);
        });
        edge.of("32 against every row", c -> {
            int[][] streets = {{3, 17, 17, 29, 44}, {0, 1, 59, 60}, {8, 9, 10, 30, 31, 32, 33}, {60, 60, 58}, {0, 5, 9, 14, 20, 27, 35, 44, 54}};
            for (int[] street : streets) for (int k = 1; k <= 3; k++) ordered(c, stayers(street), k, leastOff(street, k), leastRow(street, k));
        });
        edge.of("32 sixteen PEOPLE", c -> {
            HemLine x = new HemLine();
            for (int p = 0; p < 16; p++) x.person(1, 0, 4 * p);
            x.law(0);
            c.is("shop(6, 0)", x.shop(6, 0), 40);
            c.is("shop(1, 0)", x.shop(1, 0), 4 * 64);
            c.is("shop(1, 10)", x.shop(1, 10), 28);
        });
    }

    private static int offOf(int[] street, int[] row) {
        int sum = 0;
        for (int length : street) {
            int off = 99;
            for (int r : row) off = Math.min(off, Math.abs(r - length));
            sum += off;
        }
        return sum;
    }

    private static int leastOff(int[] street, int k) {
        return offOf(street, leastRow(street, k));
    }

    /** Up to three LENGTHS, by looking at all rows. */
    private static int[] leastRow(int[] street, int k) {
        int[] best = null;
        for (int a = 0; a <= 60; a++) {
            for (int b = k > 1 ? a + 1 : 60; b <= 60; b++) {
                for (int d = k > 2 ? b + 1 : 60; d <= 60; d++) {
                    int[] row = k == 1 ? new int[] {a} : k == 2 ? new int[] {a, b} : new int[] {a, b, d};
                    if (best == null || offOf(street, row) < offOf(street, best)) best = row;
                }
            }
        }
        return best;
    }

    /** Goes up two inches a SEASON; LAWS 1 to 4 would have it go three, two, none and two. */
    private static HemLine reader(int seasons) {
        HemLine x = new HemLine();
        x.person(1, 0, 0);
        x.shows(0, 60);
        for (int by : new int[] {2, 3, 2, 0, 2}) Checks.tell(x, "to house 0 " + by + ";");
        x.force(0);
        for (int i = 0; i < seasons; i++) x.run(1);
        return x;
    }

    private static void read(Edge edge) {
        edge.of("33 none such", c -> {
            HemLine x = reader(3);
            for (int law : new int[] {-2, 5, 6, LOW, HIGH}) c.is("read(" + law + ")", x.read(law), -1);
            int[] due = {0, 3, 0, 6, 0};
            for (int law = 0; law < 5; law++) c.is("read(" + law + ")", x.read(law), due[law]);
            HemLine y = Checks.follower(10);
            c.is("read(0)", y.read(0), 0);
            c.is("read(1)", y.read(1), -1);
        });
        edge.of("33 no LAWS", c -> {
            HemLine x = new HemLine();
            c.is("read(NONE)", x.read(-1), -1);
            c.is("read(0)", x.read(0), -1);
            Checks.tell(x, "to");
            c.is("a FAULT", x.read(-1), -1);
        });
        edge.of("33 of NONE: of several the first", c -> {
            c.is("0, 2 and 4 read as well", reader(3).read(-1), 0);
            HemLine x = new HemLine();
            x.person(1, 0, 0);
            x.shows(0, 60);
            for (int by : new int[] {9, 4, 2, 0, 2}) Checks.tell(x, "to house 0 " + by + ";");
            x.run(3);
            c.is("2 and 4 read as well", x.read(-1), 2);
            x.force(3);
            x.run(20);
            c.is("the LAW in force doesn't matter", x.read(-1), 3);
        });
        edge.of("33 of NONE: the last one, too", c -> {
            HemLine x = new HemLine();
            x.person(1, 0, 0);
            x.shows(0, 60);
            for (int by : new int[] {9, 8, 7, 6, 5}) Checks.tell(x, "to house 0 " + by + ";");
            x.run(4);
            c.is("read(NONE)", x.read(-1), 4);
        });
        edge.of("33 in SEASON 0, and without PEOPLE", c -> {
            HemLine x = reader(0);
            for (int law = 0; law < 5; law++) c.is("read(" + law + ")", x.read(law), 0);
            c.is("read(NONE)", x.read(-1), 0);
            HemLine y = new HemLine();
            y.law(0);
            c.is("read(0)", y.read(0), 0);
            c.is("read(NONE)", y.read(-1), 0);
        });
        edge.of("33 the last 20 RECORDED SEASONS with one ahead", c -> {
            for (int seasons = 1; seasons <= 24; seasons++) c.is("an inch in each of " + seasons, reader(seasons).read(1), Math.min(20, seasons));
            HemLine x = Checks.follower(30);
            Checks.walk(x, 31);
            Checks.tell(x, "stay;");
            x.run(19);
            c.is("19 behind it", x.read(1), 1);
            x.run(1);
            c.is("20 behind it", x.read(1), 0);
        });
        edge.of("33 how far off, together, above and below", c -> {
            HemLine x = Checks.dancers(10, 50);
            Checks.tell(x, "to house 0 60;");
            x.force(0);
            Checks.step(x, 20, 20);
            c.is("both wore 20", x.read(1), 0);
            Checks.step(x, 15, 45);
            c.is("15 and 45 for 15", x.read(1), 30);
            Checks.tell(x, "stay;");
            c.is("each by its own: 10 and 30, 5 and 25", x.read(2), 70);
        });
        edge.of("33 COIN (behind PURSE) as it was", c -> {
            HemLine x = new HemLine();
            for (int p = 0; p < 3; p++) x.person(1, 7 + p, 10);
            x.shows(0, 60);
            Checks.tell(x, "to house 0 1 if coin=7 or coin=16 or coin=27;");
            x.run(4);
            for (int p = 0; p < 3; p++) c.is("each went once", x.wears(p, 2), 11);
            c.is("read(0)", x.read(0), 0);
            Checks.tell(x, "to house 0 1 if coin=8 or coin=18;");
            c.is("three went but wouldn't have, two would have", x.read(1), 5);
        });
        edge.of("33 WORN as it was", c -> {
            HemLine x = new HemLine();
            for (int p = 0; p < 3; p++) x.person(1 + p, 0, 10);
            x.shows(0, 60);
            Checks.tell(x, "to house 0 1 if worn=1 and rank=1 or worn=2 and rank=2 or worn=3 and rank=3;");
            x.run(12);
            int[] due = {16, 14, 13};
            for (int p = 0; p < 3; p++) c.is("wears(" + p + ", 2)", x.wears(p, 2), due[p]);
            c.is("read(0)", x.read(0), 0);
            Checks.tell(x, "to house 0 1 if worn=0;");
            c.is("each one off in each SEASON with WORN 0 and where it went", x.read(1), 2 * (6 + 4 + 3));
        });
        edge.of("33 WORN of 199 SEASONS, COIN of 9,999", c -> {
            HemLine x = new HemLine();
            x.person(1, 99, 10);
            x.person(1, 99, 10);
            x.shows(0, 60);
            Checks.tell(x, "to house 0 1 if worn=199 and coin=9999;");
            for (int i = 0; i < 4; i++) x.run(50);
            c.is("wears(1, 2)", x.wears(1, 2), 11);
            c.is("read(0)", x.read(0), 0);
            Checks.tell(x, "stay;");
            c.is("read(1)", x.read(1), 2);
        });
        edge.of("33 CHANCE as it was", c -> {
            HemLine x = EdgePeopleTests.drawer(EdgePeopleTests.chances(55, 20));
            x.seed(55);
            x.run(20);
            c.is("read(0)", x.read(0), 0);
            Checks.tell(x, "stay;");
            c.is("an inch in each", x.read(1), 20);
            x.seed(56);
            c.is("z of now doesn't matter", x.read(0), 0);
            HemLine y = new HemLine();
            for (int p = 0; p < 16; p++) y.person(1, p, 0);
            y.shows(0, 60);
            int due = EdgePeopleTests.chances(1, 16)[15];
            Checks.tell(y, "to house 0 9 if purse=15 and chance=" + due + ";");
            y.run(1);
            c.is("the last of sixteen went", y.wears(15, 2), 9);
            c.is("read(0)", y.read(0), 0);
        });
        edge.of("33 HOUSES and MONEY as they were", c -> {
            HemLine x = Checks.follower(10);
            x.money(5);
            Checks.walk(x, 20);
            x.money(6);
            Checks.walk(x, 30);
            x.shows(0, 60);
            x.money(7);
            c.is("read(0)", x.read(0), 0);
            Checks.tell(x, "to house 0 60 if money=5;");
            c.is("ten off in SEASON 2", x.read(1), 10);
            Checks.tell(x, "to house 0 60 if money=6;");
            c.is("ten off in SEASON 1", x.read(2), 10);
        });
        edge.of("33 what each WANTS, against what it wore then: unpaid ones are off", c -> {
            HemLine x = Checks.follower(10);
            x.set(2, 0, 0);
            x.shows(0, 15);
            x.run(1);
            c.is("it had 1 coin for 2", x.read(0), 5);
            x.run(1);
            c.is("then it paid", x.read(0), 5);
        });
        edge.of("33 old n, as RECORDED then", c -> {
            HemLine x = Checks.follower(10);
            Checks.walk(x, 20, 30, 40);
            Checks.tell(x, "to old 1 60;");
            // SEASON 1: none; 2: 10 for 30; 3: 20 for 40
            c.is("read(1)", x.read(1), 10 + 20 + 20);
        });
    }
}
