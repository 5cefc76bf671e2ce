/** The bounds that promises 22 to 25 name, each sentence in a test of its own. */
public final class EdgeHouseTests {
    private static final int LOW = Integer.MIN_VALUE;
    private static final int HIGH = Integer.MAX_VALUE;

    public static void main(String[] args) {
        Edge edge = new Edge();
        followed(edge);
        luck(edge);
        claim(edge);
        claimsByCouples(edge);
        best(edge);
        edge.end();
    }

    /** Answers of followed() for a HOUSE that shows a LENGTH while the LINE goes from one to another. */
    private static int once(int from, int to, int shown) {
        HemLine x = Checks.follower(from);
        x.shows(1, shown);
        Checks.walk(x, to);
        return x.followed(1, 0);
    }

    private static void followed(Edge edge) {
        edge.of("22 none such", c -> {
            HemLine x = Checks.follower(10);
            for (int h = 0; h < 4; h++) x.shows(h, 12 + h);
            x.run(1);
            for (int h : new int[] {-1, 4, LOW, HIGH}) for (int what = 0; what < 2; what++) c.is("followed(" + h + ", " + what + ")", x.followed(h, what), -1);
            for (int what : new int[] {-1, 2, LOW, HIGH}) for (int h = 0; h < 4; h++) c.is("followed(" + h + ", " + what + ")", x.followed(h, what), -1);
            for (int what = 0; what < 2; what++) for (int h = 0; h < 4; h++) c.is("followed(" + h + ", " + what + ")", x.followed(h, what), 1);
        });
        edge.of("22 RECORDED with a next one: not now", c -> {
            HemLine x = Checks.follower(10);
            x.shows(1, 20);
            c.is("in SEASON 0", x.followed(1, 1), 0);
            for (int s = 1; s <= 5; s++) {
                Checks.walk(x, 10 + s);
                c.is("in SEASON " + s, x.followed(1, 1), s);
                c.is("FOLLOWED in SEASON " + s, x.followed(1, 0), s);
            }
        });
        edge.of("22 in which it shows", c -> {
            HemLine x = Checks.follower(10);
            int[] shown = {20, -1, 20, -1, 0, 60};
            for (int i = 0; i < 6; i++) {
                x.shows(2, shown[i]);
                Checks.walk(x, 11 + i);
            }
            c.is("of how many", x.followed(2, 1), 4);
            c.is("towards 20, 20 and 60", x.followed(2, 0), 3);
        });
        edge.of("22 shows 0", c -> {
            c.is("nearer to 0", once(10, 9, 0), 1);
            c.is("further from 0", once(10, 11, 0), 0);
            c.is("to 0", once(1, 0, 0), 1);
        });
        edge.of("22 nearer, not as near", c -> {
            c.is("nearer", once(10, 11, 20), 1);
            c.is("nearer beyond", once(10, 29, 20), 1);
            c.is("as near beyond", once(10, 30, 20), 0);
            c.is("further beyond", once(10, 31, 20), 0);
            c.is("the same", once(10, 10, 20), 0);
            c.is("there already", once(20, 20, 20), 0);
            c.is("away", once(20, 21, 20), 0);
            c.is("nearer from above", once(30, 11, 20), 1);
            c.is("as near from above", once(30, 10, 20), 0);
        });
        edge.of("22 100 times what it shows, by LINES that are cut", c -> {
            HemLine x = new HemLine();
            for (int p = 0; p < 16; p++) x.person(p == 0 ? 1 : 0, 0, 10);
            x.shows(0, 11);
            x.shows(1, 11);
            x.shows(2, 10);
            Checks.tell(x, "to house 0 60 if rank=1;");
            x.run(1);
            c.is("line(1)", x.line(1), 1006);
            c.is("nearer to 11", x.followed(1, 0), 1);
            c.is("further from 10", x.followed(2, 0), 0);
        });
        edge.of("22 all of 200 SEASONS", c -> {
            HemLine x = Checks.follower(10);
            x.shows(3, 20);
            x.shows(0, 10);
            for (int i = 0; i < 4; i++) x.run(50);
            c.is("of how many", x.followed(3, 1), 200);
            c.is("none FOLLOWED", x.followed(3, 0), 0);
        });
    }

    private static void luck(Edge edge) {
        edge.of("23 none such", c -> {
            HemLine x = Checks.follower(10);
            for (int h = 0; h < 4; h++) x.shows(h, 12 + h);
            x.run(1);
            for (int h : new int[] {-1, 4, LOW, HIGH}) for (int what = 0; what < 2; what++) c.is("luck(" + h + ", " + what + ")", x.luck(h, what), -1);
            for (int what : new int[] {-1, 2, LOW, HIGH}) for (int h = 0; h < 4; h++) c.is("luck(" + h + ", " + what + ")", x.luck(h, what), -1);
            for (int what = 0; what < 2; what++) for (int h = 0; h < 4; h++) c.is("luck(" + h + ", " + what + ")", x.luck(h, what), 4);
        });
        edge.of("23 it never showed so: not at all, or only now", c -> {
            HemLine x = Checks.follower(10);
            x.shows(1, 20);
            c.is("in SEASON 0", x.luck(1, 0), -1);
            c.is("in SEASON 0", x.luck(1, 1), -1);
            x.shows(1, -1);
            Checks.walk(x, 11);
            x.shows(1, 20);
            c.is("only now", x.luck(1, 0), -1);
            c.is("only now", x.luck(1, 1), -1);
            c.is("not at all", x.luck(2, 1), -1);
            Checks.walk(x, 12);
            c.is("with a next one", x.luck(1, 1), 2);
        });
        edge.of("23 one HOUSE that shows: one way", c -> {
            HemLine x = Checks.follower(10);
            Checks.walk(x, 11, 12, 12, 11);
            c.is("all ways", x.luck(0, 1), 1);
            c.is("as many", x.luck(0, 0), 1);
        });
        edge.of("23 the last 12 such SEASONS", c -> {
            for (int seasons = 1; seasons <= 15; seasons++) {
                HemLine x = Checks.follower(0);
                x.shows(1, 60);
                x.shows(2, 60);
                x.shows(3, 60);
                for (int s = 1; s <= seasons; s++) Checks.walk(x, s);
                c.is("all ways of " + seasons, x.luck(1, 1), 1L << 2 * Math.min(12, seasons));
                c.is("all are FOLLOWED", x.luck(1, 0), 1L << 2 * Math.min(12, seasons));
            }
        });
        edge.of("23 the last 12 such SEASONS: FOLLOWED in the 13th last alone doesn't count", c -> {
            HemLine x = Checks.follower(30);
            x.shows(1, 0);
            Checks.walk(x, 29);
            for (int s = 1; s <= 11; s++) Checks.walk(x, 29 + s);
            // HOUSE 0 is FOLLOWED in all, HOUSE 1 in the first alone
            c.is("12 SEASONS, all ways", x.luck(1, 1), 1L << 12);
            c.is("12 SEASONS, at least one", x.luck(1, 0), 1L << 12);
            c.is("12 SEASONS, HOUSE 0: all of 12", x.luck(0, 0), 2);
            Checks.walk(x, 41);
            c.is("13 SEASONS, all ways", x.luck(1, 1), 1L << 12);
            c.is("13 SEASONS, HOUSE 1 in none of the last 12", x.luck(1, 0), 1L << 12);
            c.is("13 SEASONS, HOUSE 0: all of 12", x.luck(0, 0), 1);
        });
        edge.of("23 the last 12 SEASONS in which it shows, not the last 12", c -> {
            HemLine x = Checks.follower(0);
            x.shows(1, 60);
            for (int s = 1; s <= 5; s++) Checks.walk(x, s);
            x.shows(1, -1);
            for (int s = 6; s <= 25; s++) Checks.walk(x, s);
            x.shows(1, 60);
            for (int s = 26; s <= 30; s++) Checks.walk(x, s);
            c.is("ten SEASONS", x.luck(1, 1), 1L << 10);
            c.is("of HOUSE 0 the last twelve: seven of them alone", x.luck(0, 1), 1L << 5);
        });
        edge.of("23 at least as many", c -> {
            // four SEASONS with two HOUSES: 0 always FOLLOWED (it's worn), 1 in the first k
            for (int k = 0; k <= 4; k++) {
                HemLine x = Checks.follower(10);
                for (int s = 0; s < 4; s++) {
                    x.shows(1, s < k ? 60 : 0);
                    Checks.walk(x, 11 + s);
                }
                c.is("followed(1, 0)", x.followed(1, 0), k);
                long due = 0;
                for (int ways = 0; ways < 16; ways++) {
                    int yes = 0;
                    for (int s = 0; s < 4; s++) yes += (ways >> s & 1) == 0 || s < k ? 1 : 0;
                    due += yes >= k ? 1 : 0;
                }
                c.is("luck(1, 0) of " + k, x.luck(1, 0), due);
                c.is("luck(0, 0) of " + k, x.luck(0, 0), 1L << k);
                c.is("luck(1, 1)", x.luck(1, 1), 16);
            }
        });
        edge.of("23 at least as many: one less isn't", c -> {
            HemLine x = new HemLine();
            x.person(1, 0, 10);
            int[][] shown = {{0, 0, 60}, {60, 0, 60}, {0, 0, 0}};
            Checks.tell(x, "to house 0 1;");
            x.shows(0, 60);
            for (int[] s : shown) {
                for (int h = 1; h < 4; h++) x.shows(h, s[h - 1]);
                x.run(1);
            }
            // FOLLOWED: HOUSE 0 in 3, 1 in 1, 2 in none, 3 in 2; good HOUSES in each SEASON: 2, 3, 1 of 4
            c.is("followed(1, 0)", x.followed(1, 0), 1);
            c.is("all ways", x.luck(0, 1), 64);
            c.is("three", x.luck(0, 0), 2 * 3 * 1);
            c.is("two", x.luck(3, 0), 6 + 2 * 3 * 3 + 2 * 1 * 1 + 2 * 3 * 1);
            c.is("one", x.luck(1, 0), 64 - 2 * 1 * 3);
            c.is("none", x.luck(2, 0), 64);
        });
        edge.of("23 only HOUSES that show in it are chosen", c -> {
            HemLine x = Checks.follower(10);
            x.shows(1, 60);
            Checks.walk(x, 11);
            x.shows(2, 60);
            x.shows(3, 0);
            Checks.walk(x, 12);
            c.is("2 times 4", x.luck(1, 1), 8);
            c.is("4", x.luck(2, 1), 4);
            c.is("both FOLLOWED", x.luck(1, 0), 2 * 3);
        });
    }

    /** MONEY and LENGTH of each SEASON from 0 on. */
    private static HemLine market(int[] moneys, int[] lengths) {
        HemLine x = Checks.follower(lengths[0]);
        x.money(moneys[0]);
        for (int s = 1; s < lengths.length; s++) {
            Checks.walk(x, lengths[s]);
            x.money(moneys[s]);
        }
        return x;
    }

    private static void claim(Edge edge) {
        edge.of("24 a lag 0 to 9", c -> {
            HemLine x = market(new int[] {1, 2}, new int[] {10, 11});
            for (int lag : new int[] {-1, 10, LOW, HIGH}) for (int what = 0; what < 3; what++) c.is("claim(" + lag + ", " + what + ")", x.claim(lag, what), -1);
            c.is("claim(0, 1)", x.claim(0, 1), 1);
            for (int lag = 1; lag < 10; lag++) c.is("claim(" + lag + ", 1)", x.claim(lag, 1), 0);
        });
        edge.of("24 what 0 to 2", c -> {
            HemLine x = market(new int[] {1, 2}, new int[] {10, 11});
            for (int what : new int[] {-1, 3, LOW, HIGH}) for (int lag = 0; lag < 10; lag++) c.is("claim(" + lag + ", " + what + ")", x.claim(lag, what), -1);
            for (int what = 0; what < 3; what++) c.is("claim(0, " + what + ")", x.claim(0, what), 1);
        });
        edge.of("24 s: lag and 1 at least", c -> {
            int[] moneys = new int[12];
            int[] lengths = new int[12];
            for (int s = 0; s < 12; s++) {
                moneys[s] = s;
                lengths[s] = 2 * s;
            }
            for (int n = 1; n <= 12; n++) {
                HemLine x = market(moneys, java.util.Arrays.copyOf(lengths, n));
                for (int lag = 0; lag < 10; lag++) c.is("claim(" + lag + ", 1) in " + (n - 1), x.claim(lag, 1), Math.max(0, n - 1 - lag));
            }
        });
        edge.of("24 MONEY of s less lag, LINE of s", c -> {
            for (int lag = 0; lag < 10; lag++) {
                int[] moneys = new int[22];
                int[] lengths = new int[22];
                for (int s = 0; s < 22; s++) {
                    moneys[s] = s >= 5 ? 70 : 60;
                    lengths[s] = s >= 5 + lag ? 9 : 8;
                }
                HemLine x = market(moneys, lengths);
                for (int other = 0; other < 10; other++) {
                    c.is("claim(" + other + ", 1) for " + lag, x.claim(other, 1), other == lag ? 1 : 0);
                    c.is("claim(" + other + ", 0) for " + lag, x.claim(other, 0), other == lag ? 1 : 0);
                }
                c.is("best() for " + lag, x.best(), lag);
            }
        });
        edge.of("24 both unlike 0; HITS: both above or both below", c -> {
            for (int money = -1; money <= 1; money++) {
                for (int line = -1; line <= 1; line++) {
                    HemLine x = market(new int[] {50, 50 + money}, new int[] {30, 30 + line});
                    int couple = money != 0 && line != 0 ? 1 : 0;
                    int hit = money * line > 0 ? 1 : 0;
                    c.is("couples of " + money + " and " + line, x.claim(0, 1), couple);
                    c.is("HITS of " + money + " and " + line, x.claim(0, 0), hit);
                    c.is("ODDS of " + money + " and " + line, x.claim(0, 2), couple == 1 && hit == 0 ? 2 : 1);
                }
            }
        });
        edge.of("24 from 0 to 99 and from 99 to 0", c -> {
            HemLine x = market(new int[] {0, 99, 0}, new int[] {0, 60, 0});
            c.is("HITS", x.claim(0, 0), 2);
            c.is("couples", x.claim(0, 1), 2);
            HemLine y = market(new int[] {99, 0, 99}, new int[] {0, 60, 0});
            c.is("no HITS", y.claim(0, 0), 0);
            c.is("couples", y.claim(0, 1), 2);
        });
        edge.of("24 LINES, though they are cut", c -> {
            HemLine x = new HemLine();
            for (int p = 0; p < 16; p++) x.person(p == 0 ? 1 : 0, 0, 10);
            x.shows(0, 11);
            Checks.tell(x, "to house 0 60 if rank=1;");
            x.run(1);
            x.money(1);
            c.is("1006 is above 1000", x.claim(0, 0), 1);
        });
    }

    /** So many couples, with HITS in those whose bit is set; the first couple is the lowest bit. */
    private static HemLine couples(int n, long hits) {
        int[] moneys = new int[n + 1];
        int[] lengths = new int[n + 1];
        moneys[0] = 50;
        lengths[0] = 30;
        for (int s = 1; s <= n; s++) {
            boolean up = s % 2 == 1;
            boolean hit = (hits >> s - 1 & 1) != 0;
            lengths[s] = up ? 31 : 30;
            moneys[s] = moneys[s - 1] + (up == hit ? 1 : -1);
        }
        return market(moneys, lengths);
    }

    private static void claimsByCouples(Edge edge) {
        edge.of("24 the last 40", c -> {
            long all = (1L << 41) - 1;
            int[][] due = {{39, 39}, {40, 40}, {41, 40}};
            for (int[] d : due) {
                HemLine x = couples(d[0], all);
                c.is("couples of " + d[0], x.claim(0, 1), d[1]);
                c.is("HITS of " + d[0], x.claim(0, 0), d[1]);
                c.is("ODDS of " + d[0], x.claim(0, 2), 1);
            }
            HemLine x = couples(40, 1);
            c.is("the first of 40 counts", x.claim(0, 0), 1);
            HemLine y = couples(41, 1);
            c.is("the first of 41 doesn't", y.claim(0, 0), 0);
            HemLine z = couples(41, 2);
            c.is("the second of 41 does", z.claim(0, 0), 1);
            HemLine w = couples(41, 1L << 40);
            c.is("the last one does", w.claim(0, 0), 1);
        });
        edge.of("24 the last 40 couples, not SEASONS", c -> {
            int[] moneys = new int[101];
            int[] lengths = new int[101];
            for (int s = 0; s <= 100; s++) {
                // a couple in every other SEASON alone
                moneys[s] = s / 2 % 2 == 0 ? 10 : 20;
                lengths[s] = s / 2 % 2 == 0 ? 30 : 40;
            }
            HemLine x = market(moneys, lengths);
            c.is("couples", x.claim(0, 1), 40);
            c.is("HITS", x.claim(0, 0), 40);
        });
        edge.of("24 ODDS: at least as many yes", c -> {
            for (int n = 1; n <= 10; n++) {
                for (int hits = 0; hits <= n; hits++) {
                    long due = 0;
                    for (int row = 0; row < 1 << n; row++) due += Integer.bitCount(row) >= hits ? 1 : 0;
                    c.is("ODDS of " + hits + " of " + n, couples(n, (1L << hits) - 1).claim(0, 2), due);
                }
            }
        });
        edge.of("24 ODDS: of 40", c -> {
            c.is("none", couples(40, 0).claim(0, 2), 1L << 40);
            c.is("one", couples(40, 1).claim(0, 2), (1L << 40) - 1);
            c.is("two", couples(40, 3).claim(0, 2), (1L << 40) - 41);
            c.is("half of them", couples(40, (1L << 20) - 1).claim(0, 2), ((1L << 40) + 137846528820L) / 2);
            c.is("all but one", couples(40, (1L << 39) - 1).claim(0, 2), 41);
            c.is("all", couples(40, (1L << 40) - 1).claim(0, 2), 1);
        });
        edge.of("24 without a couple", c -> {
            HemLine x = market(new int[] {5, 5}, new int[] {10, 11});
            int[] due = {0, 0, 1};
            for (int lag = 0; lag < 10; lag++) for (int what = 0; what < 3; what++) c.is("claim(" + lag + ", " + what + ")", x.claim(lag, what), due[what]);
        });
    }

    private static void best(Edge edge) {
        edge.of("25 NONE: none with a couple", c -> {
            HemLine x = new HemLine();
            c.is("a new object", x.best(), -1);
            x.person(1, 0, 10);
            c.is("SEASON 0", x.best(), -1);
            c.is("MONEY alone", market(new int[] {1, 2, 3}, new int[] {10, 10, 10}).best(), -1);
            c.is("LINES alone", market(new int[] {5, 5, 5}, new int[] {10, 11, 12}).best(), -1);
            c.is("MONEY behind the LINE", market(new int[] {5, 5, 6}, new int[] {10, 11, 11}).best(), -1);
        });
        edge.of("25 a lag with a couple, though no HIT", c -> {
            HemLine x = market(new int[] {5, 6}, new int[] {10, 9});
            c.is("HITS", x.claim(0, 0), 0);
            c.is("best()", x.best(), 0);
            HemLine y = market(new int[] {5, 6, 6}, new int[] {10, 10, 9});
            c.is("claim(0, 1)", y.claim(0, 1), 0);
            c.is("claim(1, 1)", y.claim(1, 1), 1);
            c.is("best()", y.best(), 1);
        });
        edge.of("25 the last lag, and none behind it", c -> {
            for (int lag = 8; lag <= 10; lag++) {
                int[] moneys = new int[lag + 3];
                int[] lengths = new int[lag + 3];
                for (int s = 0; s < lag + 3; s++) {
                    moneys[s] = s >= 1 ? 1 : 0;
                    lengths[s] = s >= 1 + lag ? 1 : 0;
                }
                c.is("best() for " + lag, market(moneys, lengths).best(), lag <= 9 ? lag : -1);
            }
        });
        edge.of("25 ODDS by all rows are least", c -> {
            // MONEY + + + -, LINE + + + +: lag 0 has 3 HITS of 4 (5 in 16), lag 1 3 of 3 (1 in 8), lag 2 2 of 2 (1 in 4)
            HemLine x = market(new int[] {1, 2, 3, 4, 3}, new int[] {1, 2, 3, 4, 5});
            c.is("ODDS of lag 0", x.claim(0, 2), 5);
            c.is("ODDS of lag 1", x.claim(1, 2), 1);
            c.is("ODDS of lag 3", x.claim(3, 2), 1);
            c.is("best()", x.best(), 1);
            // MONEY - + + +, LINE + + + +: lag 0 has 5 in 16, lag 1 2 of 3 (4 in 8), lag 2 1 of 2 (3 in 4), lag 3 none of 1 (2 in 2)
            HemLine y = market(new int[] {5, 4, 5, 6, 7}, new int[] {1, 2, 3, 4, 5});
            c.is("ODDS of lag 0", y.claim(0, 2), 5);
            c.is("ODDS of lag 3", y.claim(3, 2), 2);
            c.is("best()", y.best(), 0);
        });
        edge.of("25 of several the least", c -> {
            // one couple each: 1 HIT of 1
            HemLine x = market(new int[] {1, 2, 2, 2, 2}, new int[] {1, 1, 1, 2, 3});
            c.is("ODDS of lag 2", x.claim(2, 2), 1);
            c.is("ODDS of lag 3", x.claim(3, 2), 1);
            c.is("best()", x.best(), 2);
            // 4 in 8 before 3 in 4
            HemLine y = market(new int[] {5, 4, 5, 6, 6}, new int[] {1, 2, 3, 4, 4});
            c.is("ODDS of lag 0", y.claim(0, 2), 4);
            c.is("couples of lag 0", y.claim(0, 1), 3);
            c.is("ODDS of lag 1", y.claim(1, 2), 3);
            c.is("couples of lag 1", y.claim(1, 1), 2);
            c.is("best()", y.best(), 0);
        });
        edge.of("25 of several the least, though of other couples", c -> {
            // MONEY + and then 0, LINE + + -: one couple for each lag
            HemLine x = market(new int[] {5, 6, 6, 6, 6, 6}, new int[] {1, 2, 3, 2, 2, 2});
            c.is("lag 0", x.claim(0, 2), 1);
            c.is("lag 1", x.claim(1, 2), 1);
            c.is("lag 2", x.claim(2, 2), 2);
            c.is("best()", x.best(), 0);
            // MONEY + + - 0 0, LINE 0 + + + +: 1 of 2 (3 in 4), 2 of 3 twice (4 in 8), then 2 of 2
            HemLine y = market(new int[] {5, 6, 7, 6, 6, 6}, new int[] {1, 1, 2, 3, 4, 5});
            c.is("couples of lag 1", y.claim(1, 1), 3);
            c.is("couples of lag 2", y.claim(2, 1), 3);
            c.is("ODDS of lag 1", y.claim(1, 2), 4);
            c.is("ODDS of lag 2", y.claim(2, 2), 4);
            c.is("ODDS of lag 3", y.claim(3, 2), 1);
            c.is("couples of lag 3", y.claim(3, 1), 2);
            c.is("best()", y.best(), 3);
        });
        edge.of("25 of 40 couples against fewer", c -> {
            HemLine x = couples(41, (1L << 41) - 1);
            // lag 0: 40 HITS of 40; lag 1: none of 40
            c.is("ODDS of lag 1", x.claim(1, 2), 1L << 40);
            c.is("best()", x.best(), 0);
            HemLine y = couples(41, 0);
            c.is("ODDS of lag 0", y.claim(0, 2), 1L << 40);
            c.is("ODDS of lag 1", y.claim(1, 2), 1);
            c.is("best()", y.best(), 1);
        });
    }
}
