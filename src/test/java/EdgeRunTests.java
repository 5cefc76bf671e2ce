/** The bounds that promises 12 to 17, 29 and 30 name, each sentence in a test of its own. */
public final class EdgeRunTests {
    private static final int LOW = Integer.MIN_VALUE;
    private static final int HIGH = Integer.MAX_VALUE;

    public static void main(String[] args) {
        Edge edge = new Edge();
        run(edge);
        lines(edge);
        lengths(edge);
        wears(edge);
        tallies(edge);
        round(edge);
        pushed(edge);
        foretell(edge);
        held(edge);
        edge.end();
    }

    /** A PERSON who stays, so many SEASONS on. */
    private static HemLine stayer(int seasons) {
        HemLine x = new HemLine();
        x.person(1, 1, 20);
        Checks.tell(x, "stay;");
        int left = seasons;
        while (left > 0) {
            x.run(Math.min(60, left));
            left -= 60;
        }
        return x;
    }

    private static void run(Edge edge) {
        edge.of("12 so many SEASONS (1 to 60): the SEASON", c -> {
            HemLine x = stayer(0);
            for (int n : new int[] {0, -1, 61, 200, LOW, HIGH}) c.is("run(" + n + ")", x.run(n), -1);
            c.is("count(1)", x.count(1), 0);
            c.is("run(1)", x.run(1), 1);
            c.is("run(60)", x.run(60), 61);
            c.is("run(59)", x.run(59), 120);
            c.is("count(1)", x.count(1), 120);
        });
        edge.of("12 there would be more than 200", c -> {
            c.is("60 behind 140", stayer(140).run(60), 200);
            c.is("60 behind 141", stayer(141).run(60), -1);
            c.is("50 behind 150", stayer(150).run(50), 200);
            c.is("51 behind 150", stayer(150).run(51), -1);
            c.is("1 behind 199", stayer(199).run(1), 200);
            c.is("2 behind 199", stayer(199).run(2), -1);
            c.is("1 behind 200", stayer(200).run(1), -1);
            c.is("HIGH behind 200", stayer(200).run(HIGH), -1);
        });
        edge.of("12 no PEOPLE", c -> {
            HemLine x = new HemLine();
            x.law(0);
            c.is("run(1)", x.run(1), -1);
            c.is("count(1)", x.count(1), 0);
            x.person(1, 1, 1);
            c.is("run(1)", x.run(1), 1);
        });
        edge.of("12 no LAW", c -> {
            HemLine x = new HemLine();
            x.person(1, 1, 1);
            c.is("run(1)", x.run(1), -1);
            Checks.tell(x, "stay");
            c.is("with a FAULT alone", x.run(1), -1);
            c.is("count(1)", x.count(1), 0);
            x.law(0);
            c.is("run(1)", x.run(1), 1);
        });
        edge.of("12 doing nothing", c -> {
            HemLine x = EdgePeopleTests.town();
            for (int n : new int[] {0, -1, 61, 196, LOW, HIGH}) c.is("run(" + n + ")", x.run(n), -1);
            c.untouched("run", x, EdgePeopleTests.town());
        });
        edge.of("12 doing nothing: there would be more than 200", c -> {
            HemLine[] both = {EdgePeopleTests.town(), EdgePeopleTests.town()};
            for (HemLine y : both) for (int i = 0; i < 3; i++) y.run(60);
            for (int n = 16; n <= 60; n += 11) c.is("run(" + n + ")", both[0].run(n), -1);
            c.untouched("run", both[0], both[1]);
            c.is("run(13)", both[0].run(13), -1);
            c.is("run(12)", both[0].run(12), 200);
        });
        edge.of("12 so many at once or one by one", c -> {
            HemLine x = EdgePeopleTests.town();
            HemLine y = EdgePeopleTests.town();
            x.run(30);
            for (int i = 0; i < 30; i++) y.run(1);
            c.untouched("run(30)", x, y);
        });
    }

    private static void lines(Edge edge) {
        edge.of("13 LINE: none such", c -> {
            HemLine x = stayer(3);
            for (int s : new int[] {-1, 4, 200, LOW, HIGH}) c.is("line(" + s + ")", x.line(s), -1);
            for (int s = 0; s <= 3; s++) c.is("line(" + s + ")", x.line(s), 2000);
            x.round(100, 0);
            c.is("a TRIAL's SEASON", x.line(4), -1);
        });
        edge.of("13 LINE of SEASON 200", c -> {
            HemLine x = stayer(200);
            c.is("line(200)", x.line(200), 2000);
            c.is("line(201)", x.line(201), -1);
            x.foretell(50);
            c.is("line(201)", x.line(201), -1);
        });
        edge.of("13 LINE: no PEOPLE", c -> {
            HemLine x = new HemLine();
            c.is("line(0)", x.line(0), -1);
            x.person(1, 1, 0);
            c.is("line(0)", x.line(0), 0);
        });
        edge.of("13 LINE: together times 100 by how many (cut)", c -> {
            int[][] due = {{60, 6000}, {60, 60, 6000}, {0, 1, 50}, {0, 0, 1, 33}, {1, 1, 0, 66}, {0, 0, 0, 0, 0, 0, 1, 14}, {10, 11, 11, 1066}};
            for (int[] d : due) {
                HemLine x = new HemLine();
                for (int p = 0; p < d.length - 1; p++) x.person(1, 1, d[p]);
                c.is("line(0)", x.line(0), d[d.length - 1]);
            }
            HemLine y = new HemLine();
            for (int p = 0; p < 16; p++) y.person(1, 1, p == 0 ? 59 : 60);
            c.is("line(0) of 959 by 16", y.line(0), 5993);
        });
        edge.of("13 LINE of the SEASON that it was", c -> {
            HemLine x = Checks.dancers(10, 21);
            Checks.step(x, 30, 31);
            Checks.step(x, 0, 1);
            c.is("line(0)", x.line(0), 1550);
            c.is("line(1)", x.line(1), 3050);
            c.is("line(2)", x.line(2), 50);
        });
        edge.of("13 SEASONS that back() undid are none", c -> {
            HemLine x = stayer(3);
            x.image();
            x.run(5);
            c.is("line(8)", x.line(8), 2000);
            x.back(0);
            c.is("line(4)", x.line(4), -1);
            c.is("length(0, 4)", x.length(0, 4), -1);
            c.is("line(3)", x.line(3), 2000);
        });
    }

    private static void lengths(Edge edge) {
        edge.of("14 LENGTH: none such PERSON", c -> {
            HemLine x = Checks.dancers(10, 20, 30);
            Checks.step(x, 11, 21, 31);
            for (int p : new int[] {-1, 3, 16, LOW, HIGH}) {
                c.is("length(" + p + ", 0)", x.length(p, 0), -1);
                c.is("length(" + p + ", 1)", x.length(p, 1), -1);
            }
            for (int p = 0; p < 3; p++) for (int s = 0; s < 2; s++) c.is("length(" + p + ", " + s + ")", x.length(p, s), 10 + 10 * p + s);
        });
        edge.of("14 LENGTH: none such SEASON", c -> {
            HemLine x = Checks.dancers(10, 20, 30);
            Checks.step(x, 11, 21, 31);
            for (int s : new int[] {-1, 2, 201, LOW, HIGH}) for (int p = 0; p < 3; p++) c.is("length(" + p + ", " + s + ")", x.length(p, s), -1);
            HemLine y = stayer(200);
            c.is("length(0, 200)", y.length(0, 200), 20);
            c.is("length(0, 201)", y.length(0, 201), -1);
            c.is("length(1, 200)", y.length(1, 200), -1);
        });
        edge.of("14 LENGTHS 0 and 60", c -> {
            HemLine x = Checks.follower(0);
            Checks.walk(x, 60, 0);
            c.is("length(0, 0)", x.length(0, 0), 0);
            c.is("length(0, 1)", x.length(0, 1), 60);
            c.is("length(0, 2)", x.length(0, 2), 0);
        });
    }

    private static void wears(Edge edge) {
        edge.of("15 none such PERSON", c -> {
            HemLine x = EdgePeopleTests.town();
            for (int p : new int[] {-1, 3, 4, 16, LOW, HIGH}) for (int what = 0; what < 16; what++) c.is("wears(" + p + ", " + what + ")", x.wears(p, what), -1);
            for (int p = 0; p < 3; p++) c.is("wears(" + p + ", 0)", x.wears(p, 0) >= 0, true);
        });
        edge.of("15 none such what: below 0, 7 to 9, from 16 on", c -> {
            HemLine x = EdgePeopleTests.town();
            for (int what : new int[] {-1, -10, 7, 8, 9, 16, 17, 100, LOW, HIGH}) for (int p = 0; p < 3; p++) c.is("wears(" + p + ", " + what + ")", x.wears(p, what), -1);
            for (int what : new int[] {0, 1, 2, 3, 4, 5, 6, 10, 11, 12, 13, 14, 15}) c.is("wears(0, " + what + ")", x.wears(0, what) >= 0, true);
        });
        edge.of("15 the last of sixteen", c -> {
            HemLine x = new HemLine();
            for (int p = 0; p < 16; p++) x.person(p % 10, p, p + 20);
            x.sees(15, 14, true);
            Checks.tell(x, "to all 1;");
            int[] due = {5, 15, 35, 0, 0, 1 << 14, 34, -1, -1, -1, 0, 0, 0, 0, 0, 0};
            for (int what = 0; what < 16; what++) c.is("wears(15, " + what + ")", x.wears(15, what), due[what]);
            x.run(1);
            int[] then = {5, 15, 34, 15, 0, 1 << 14, 34, -1, -1, -1, 1, 0, 0, 0, 0, 1};
            for (int what = 0; what < 16; what++) c.is("wears(15, " + what + ")", x.wears(15, what), then[what]);
            c.is("wears(16, 2)", x.wears(16, 2), -1);
        });
        edge.of("15 6 without a LAW", c -> {
            HemLine x = new HemLine();
            x.person(1, 1, 20);
            c.is("wears(0, 6)", x.wears(0, 6), -1);
            Checks.tell(x, "?");
            c.is("with a FAULT", x.wears(0, 6), -1);
            x.law(0);
            c.is("with one", x.wears(0, 6), 20);
        });
        edge.of("15 6 as for a SHOP: for the next SEASON, CHANCE 0, COIN as it is now", c -> {
            HemLine x = new HemLine();
            x.person(1, 9, 20);
            x.shows(0, 60);
            Checks.tell(x, "to house 0 1 if season=1 and chance=0 and coin=0 and worn=0 and money=0 and length=20;");
            c.is("in SEASON 0", x.wears(0, 6), 21);
            x.run(1);
            int length = x.wears(0, 2);
            x.money(8);
            Checks.tell(x, "to house 0 2 if season=2 and chance=0 and coin=9 and money=8 and rank=1 and purse=9;");
            c.is("in SEASON 1", x.wears(0, 6), length + 2);
            c.is("asking for it changes nothing", x.wears(0, 6), length + 2);
            c.is("wears(0, 3)", x.wears(0, 3), 9);
        });
        edge.of("15 6 whether it can be paid or not", c -> {
            HemLine x = Checks.follower(20);
            x.set(999, 0, 0);
            x.shows(0, 50);
            c.is("wears(0, 6)", x.wears(0, 6), 50);
        });
        edge.of("15 6 of SEASON 200", c -> {
            HemLine x = stayer(200);
            x.shows(1, 23);
            Checks.tell(x, "to house 1 60 if season=201;");
            c.is("wears(0, 6)", x.wears(0, 6), 23);
        });
    }

    /** One PERSON's six tallies behind one SEASON. */
    private static void tally(Checks c, String law, int purse, int... due) {
        HemLine x = new HemLine();
        x.person(5, purse, 30);
        x.set(5, 2, 3);
        x.shows(0, 30);
        x.shows(1, 32);
        x.shows(2, 40);
        Checks.tell(x, law);
        x.run(1);
        for (int i = 0; i < 6; i++) c.is(law + " wears(0, " + (10 + i) + ")", x.wears(0, 10 + i), due[i]);
    }

    private static void tallies(Edge edge) {
        edge.of("15 10 to, paid or not", c -> {
            tally(c, "to house 2 60;", 5, 1, 0, 0, 0, 0, 1);
            tally(c, "to house 2 60;", 4, 1, 0, 0, 1, 0, 0);
            tally(c, "to house 1 60;", 3, 1, 0, 0, 0, 1, 0);
            tally(c, "to house 1 60;", 2, 1, 0, 0, 1, 0, 0);
        });
        edge.of("15 11 from, paid or not", c -> {
            tally(c, "from house 0 3;", 5, 0, 1, 0, 0, 0, 1);
            tally(c, "from house 0 3;", 4, 0, 1, 0, 1, 0, 0);
            tally(c, "from house 0 2;", 3, 0, 1, 0, 0, 1, 0);
            tally(c, "from house 0 2;", 2, 0, 1, 0, 1, 0, 0);
        });
        edge.of("15 12 stayed by its own will", c -> {
            tally(c, "stay;", 0, 0, 0, 1, 0, 0, 0);
            tally(c, "", 0, 0, 0, 1, 0, 0, 0);
            tally(c, "to house 3 60;", 9, 0, 0, 1, 0, 0, 0);
            tally(c, "to house 2 60 if rank=4;", 9, 0, 0, 1, 0, 0, 0);
        });
        edge.of("15 from or to its own LENGTH counts as stayed", c -> {
            tally(c, "to house 0 60;", 9, 0, 0, 1, 0, 0, 0);
            tally(c, "to house 2 0;", 9, 0, 0, 1, 0, 0, 0);
            tally(c, "from house 2 10;", 9, 0, 0, 1, 0, 0, 0);
            tally(c, "from house 1 2;", 9, 0, 0, 1, 0, 0, 0);
            tally(c, "from house 0 0;", 9, 0, 0, 1, 0, 0, 0);
            HemLine x = Checks.follower(60);
            x.shows(0, 60);
            Checks.tell(x, "from house 0 20;");
            x.run(1);
            c.is("held to its own", x.wears(0, 12), 1);
            c.is("not gone from", x.wears(0, 11), 0);
        });
        edge.of("15 14 and 15 at a cost of 0 as well", c -> {
            HemLine x = new HemLine();
            x.person(5, 0, 30);
            x.set(0, 2, 0);
            x.shows(0, 60);
            Checks.tell(x, "to house 0 2 if season<3;to house 0 3;");
            x.run(5);
            c.is("wears(0, 14)", x.wears(0, 14), 2);
            c.is("wears(0, 15)", x.wears(0, 15), 3);
            c.is("wears(0, 10)", x.wears(0, 10), 5);
            c.is("wears(0, 13)", x.wears(0, 13), 0);
        });
        edge.of("15 each SEASON counts once: 10, 11 and 12 together are all", c -> {
            HemLine x = EdgePeopleTests.town();
            for (int i = 0; i < 3; i++) x.run(60);
            for (int p = 0; p < 3; p++) {
                c.is("10 to 12", x.wears(p, 10) + x.wears(p, 11) + x.wears(p, 12), 185);
                c.is("13 to 15", x.wears(p, 13) + x.wears(p, 14) + x.wears(p, 15), x.wears(p, 10) + x.wears(p, 11));
            }
        });
        edge.of("15 nothing a TRIAL does is counted", c -> {
            HemLine x = EdgePeopleTests.town();
            for (int n = 1; n <= 100; n += 9) x.round(n, 0);
            x.pushed(100, 3, 50, 0);
            c.untouched("round, pushed", x, EdgePeopleTests.town());
        });
    }

    /** Goes from 0 up an inch a SEASON to what HOUSE 0 shows: the first round is behind the SEASON above that. */
    private static HemLine climber(int top) {
        HemLine x = new HemLine();
        x.person(1, 0, 0);
        x.shows(0, top);
        Checks.tell(x, "to house 0 1;");
        return x;
    }

    /** Two who climb behind one another: a round of 1 behind so many SEASONS, 60 to 120. */
    private static HemLine longClimber(int seasons) {
        HemLine x = new HemLine();
        x.person(1, 0, 0);
        x.person(2, 0, 120 - seasons);
        x.sees(1, 0, true);
        x.shows(0, 60);
        Checks.tell(x, "to house 0 1 if rank=1 or below=60;");
        return x;
    }

    private static void round(Edge edge) {
        edge.of("16 n 1 to 100", c -> {
            HemLine x = stayer(0);
            for (int n : new int[] {0, -1, 101, LOW, HIGH}) {
                c.is("round(" + n + ", 0)", x.round(n, 0), -1);
                c.is("round(" + n + ", 1)", x.round(n, 1), -1);
            }
            c.is("round(1, 0)", x.round(1, 0), 1);
            c.is("round(100, 0)", x.round(100, 0), 1);
            c.is("a round behind 100", longClimber(99).round(100, 0), 100);
            c.is("a round behind 101", longClimber(100).round(100, 0), -1);
            c.is("a round behind 101", longClimber(100).round(101, 0), -1);
        });
        edge.of("16 what 0 and 1", c -> {
            HemLine x = climber(3);
            for (int what : new int[] {-1, 2, LOW, HIGH}) c.is("round(9, " + what + ")", x.round(9, what), -1);
            c.is("round(9, 0)", x.round(9, 0), 4);
            c.is("round(9, 1)", x.round(9, 1), 1);
        });
        edge.of("16 none", c -> {
            for (int top = 1; top < 60; top += 7) {
                c.is("not within n", climber(top).round(top, 0), -1);
                c.is("how long is none either", climber(top).round(top, 1), -1);
                c.is("within n", climber(top).round(top + 1, 0), top + 1);
            }
        });
        edge.of("16 no PEOPLE, no LAW", c -> {
            HemLine x = new HemLine();
            c.is("neither", x.round(1, 0), -1);
            x.law(0);
            c.is("no PEOPLE", x.round(1, 0), -1);
            HemLine y = new HemLine();
            y.person(1, 1, 1);
            c.is("no LAW", y.round(1, 0), -1);
        });
        edge.of("16 as they were behind an earlier one of it, or are now", c -> {
            HemLine x = new HemLine();
            x.person(1, 0, 0);
            x.shows(0, 30);
            x.shows(1, 0);
            Checks.tell(x, "to house 0 10 if length<30;to house 1 60;");
            c.is("0 10 20 30 0: as now", x.round(9, 0), 4);
            c.is("four long", x.round(9, 1), 4);
            c.is("not within three", x.round(3, 0), -1);
            Checks.tell(x, "to house 0 10 if length<30;to house 0 60 if length<30;from house 0 20;");
            c.is("0 10 20 30 50 50", x.round(9, 0), 5);
            c.is("one long", x.round(9, 1), 1);
            x.shows(2, 10);
            Checks.tell(x, "to house 0 10 if length<30;to house 2 60;");
            c.is("0 10 20 30 10: as behind the first", x.round(9, 0), 4);
            c.is("three long", x.round(9, 1), 3);
        });
        edge.of("16 how many behind now", c -> {
            HemLine x = climber(20);
            x.run(15);
            c.is("round(9, 0)", x.round(9, 0), 6);
            x.run(5);
            c.is("round(9, 0)", x.round(9, 0), 1);
            x.run(1);
            c.is("round(9, 0)", x.round(9, 0), 1);
        });
        edge.of("16 not as they were in a SEASON ahead of now", c -> {
            HemLine x = Checks.follower(10);
            Checks.walk(x, 20);
            x.shows(0, 10);
            x.shows(1, 30);
            Checks.tell(x, "to house 0 60 if length=20;to house 1 60;");
            // 10 (ahead), 20 now, 10, 30, 30
            c.is("round(9, 0)", x.round(9, 0), 3);
        });
        edge.of("16 all LENGTHS", c -> {
            HemLine x = Checks.dancers(10, 20);
            x.shows(0, 20);
            x.shows(1, 10);
            c.is("together alike isn't enough", x.round(9, 0), 2);
            HemLine y = new HemLine();
            for (int p = 0; p < 16; p++) y.person(p < 15 ? 1 : 2, 0, 0);
            y.shows(0, 5);
            Checks.tell(y, "to house 0 1 if rank=2;");
            c.is("the last of sixteen", y.round(9, 0), 6);
        });
        edge.of("16 LENGTHS alone: not COIN, WORN or z", c -> {
            HemLine x = new HemLine();
            x.person(1, 9, 10);
            Checks.tell(x, "stay if chance<50;stay;");
            c.is("round(1, 0)", x.round(1, 0), 1);
        });
        edge.of("16 nothing kept", c -> {
            HemLine x = EdgePeopleTests.town();
            for (int n = 1; n < 101; n += 11) for (int what = 0; what < 2; what++) x.round(n, what);
            c.untouched("round", x, EdgePeopleTests.town());
        });
        edge.of("16 in SEASON 200, too: up to a hundred behind it", c -> {
            HemLine x = stayer(200);
            c.is("round(100, 0)", x.round(100, 0), 1);
            c.is("count(1)", x.count(1), 200);
            HemLine y = new HemLine();
            y.person(1, 0, 0);
            y.person(2, 0, 21);
            y.sees(1, 0, true);
            y.shows(0, 60);
            y.law(0);
            for (int i = 0; i < 4; i++) y.run(50);
            // 60 SEASONS for the one below, then 39 for the other, then none
            Checks.tell(y, "to house 0 1 if rank=1 or below=60;");
            c.is("round(99, 0)", y.round(99, 0), -1);
            c.is("round(100, 0)", y.round(100, 0), 100);
            c.is("round(100, 1)", y.round(100, 1), 1);
        });
    }

    /** Goes by five inches up in a SEASON with MONEY above 50, else down: PURSE 0, no price. */
    private static HemLine swinger(int length) {
        HemLine x = new HemLine();
        x.person(1, 0, length);
        x.shows(0, 60);
        x.shows(1, 0);
        Checks.tell(x, "to house 0 5 if money>50;to house 1 5;");
        return x;
    }

    private static void pushed(Edge edge) {
        edge.of("17 n 1 to 100", c -> {
            HemLine x = swinger(30);
            for (int n : new int[] {0, -1, 101, LOW, HIGH}) for (int what = 0; what < 2; what++) c.is("pushed(" + n + ", 2, 99, 0)", x.pushed(n, 2, 99, what), -1);
            c.is("pushed(100, 2, 99, 0)", x.pushed(100, 2, 99, 0), 4);
            c.is("pushed(1, 1, 99, 0)", x.pushed(1, 1, 99, 0), -1);
            // two climb behind one another; a round of two, by turns of one
            HemLine y = longClimber(98);
            c.is("a round behind 100", y.pushed(100, 1, 0, 0), 100);
            c.is("a round behind 101", longClimber(99).pushed(100, 1, 0, 0), -1);
        });
        edge.of("17 in turns of so many SEASONS (1 to 20)", c -> {
            HemLine x = swinger(30);
            for (int every : new int[] {0, -1, 21, LOW, HIGH}) for (int what = 0; what < 2; what++) c.is("turns of " + every, x.pushed(100, every, 99, what), -1);
            c.is("turns of 1", x.pushed(100, 1, 99, 0), 2);
            HemLine y = new HemLine();
            y.person(1, 0, 30);
            y.shows(0, 60);
            y.shows(1, 0);
            Checks.tell(y, "to house 0 1 if money>50;to house 1 1;");
            c.is("turns of 20", y.pushed(100, 20, 99, 0), 40);
            c.is("turns of 20, how long", y.pushed(100, 20, 99, 1), 40);
            c.is("turns of 19", y.pushed(100, 19, 99, 0), 38);
        });
        edge.of("17 MONEY 0 to 99", c -> {
            HemLine x = swinger(30);
            for (int money : new int[] {-1, 100, LOW, HIGH}) for (int what = 0; what < 2; what++) c.is("MONEY " + money, x.pushed(9, 2, money, what), -1);
            for (int money : new int[] {-1, 100, LOW, HIGH}) c.is("MONEY " + money, stayer(0).pushed(9, 2, money, 0), -1);
            for (int money : new int[] {0, 99}) c.is("MONEY " + money, stayer(0).pushed(9, 2, money, 0), 4);
            c.is("MONEY 99", x.pushed(9, 2, 99, 0), 4);
            c.is("MONEY 51", x.pushed(9, 2, 51, 0), 4);
            c.is("MONEY 50: down to 0", x.pushed(9, 2, 50, 0), -1);
            c.is("MONEY 50: down to 0", x.pushed(10, 2, 50, 0), 10);
            x.money(99);
            c.is("MONEY 0", x.pushed(9, 2, 0, 0), 4);
        });
        edge.of("17 what 0 and 1", c -> {
            HemLine x = swinger(30);
            for (int what : new int[] {-1, 2, LOW, HIGH}) c.is("what " + what, x.pushed(9, 2, 99, what), -1);
            c.is("what 1", x.pushed(9, 2, 99, 1), 4);
        });
        edge.of("17 none; no PEOPLE, no LAW", c -> {
            c.is("none within three", swinger(30).pushed(3, 2, 99, 0), -1);
            c.is("none within three", swinger(30).pushed(3, 2, 99, 1), -1);
            HemLine x = new HemLine();
            x.law(0);
            c.is("no PEOPLE", x.pushed(9, 1, 1, 0), -1);
            HemLine y = new HemLine();
            y.person(1, 1, 1);
            c.is("no LAW", y.pushed(9, 1, 1, 0), -1);
        });
        edge.of("17 a told MONEY in the first so many, then as it is now for as many, and so on in turns", c -> {
            for (int every = 1; every <= 5; every++) {
                HemLine x = new HemLine();
                x.person(1, 0, 0);
                x.shows(0, 60);
                x.shows(1, 0);
                x.money(7);
                Checks.tell(x, "to house 0 1 if money=44;to house 0 2 if money=7;");
                // up by one in each told SEASON, by two in the others: 60 is reached at last, and a round of both turns behind it
                int length = 0;
                int seasons = 0;
                while (length < 60) {
                    length = Math.min(60, length + (seasons / every % 2 == 0 ? 1 : 2));
                    seasons++;
                }
                c.is("turns of " + every, x.pushed(100, every, 44, 0), seasons + 2 * every);
                c.is("turns of " + every + ", how long", x.pushed(100, every, 44, 1), 2 * every);
            }
        });
        edge.of("17 only SEASONS that are apart by a multiple of both turns together", c -> {
            HemLine x = stayer(0);
            for (int every = 1; every <= 20; every++) {
                c.is("none sooner", x.pushed(2 * every - 1, every, 50, 0), -1);
                c.is("both turns", x.pushed(2 * every, every, 50, 0), 2 * every);
                c.is("how long", x.pushed(100, every, 50, 1), 2 * every);
            }
            HemLine y = new HemLine();
            y.person(1, 0, 0);
            y.shows(0, 30);
            y.shows(1, 0);
            // a round of four by itself: turns of one find it at 4, turns of three at 12, twice both turns
            Checks.tell(y, "to house 0 10 if length<30;to house 1 60;");
            c.is("turns of 1", y.pushed(100, 1, 50, 0), 4);
            c.is("turns of 2", y.pushed(100, 2, 50, 0), 4);
            c.is("turns of 3", y.pushed(100, 3, 50, 0), 12);
            c.is("turns of 3, how long", y.pushed(100, 3, 50, 1), 12);
            c.is("turns of 5", y.pushed(100, 5, 50, 0), 20);
        });
        edge.of("17 MONEY is as it was behind it, nothing kept", c -> {
            HemLine x = EdgePeopleTests.town();
            for (int every = 1; every <= 20; every += 3) for (int what = 0; what < 2; what++) x.pushed(100 - every, every, 98, what);
            c.is("count(9)", x.count(9), 41);
            c.untouched("pushed", x, EdgePeopleTests.town());
        });
    }

    private static void foretell(Edge edge) {
        edge.of("29 a TRIAL of n SEASONS (1 to 50)", c -> {
            HemLine x = climber(60);
            for (int n : new int[] {0, -1, 51, LOW, HIGH}) c.is("foretell(" + n + ")", x.foretell(n), -1);
            c.is("count(6)", x.count(6), 0);
            c.is("foretell(1)", x.foretell(1), 0);
            c.is("foretell(50)", x.foretell(50), 1);
            c.is("held(0, 0)", x.held(0, 0), 100);
            c.is("held(1, 0)", x.held(1, 0), 5000);
        });
        edge.of("29 FORETOLD, up to 20: its number", c -> {
            HemLine x = stayer(1);
            for (int k = 0; k < 20; k++) {
                c.is("foretell", x.foretell(k + 1), k);
                c.is("count(6)", x.count(6), k + 1);
            }
            c.is("the 21st", x.foretell(1), -1);
            c.is("count(6)", x.count(6), 20);
            c.is("held(19, 1)", x.held(19, 1), 21);
            c.is("held(20, 1)", x.held(20, 1), -2);
        });
        edge.of("29 no PEOPLE, no LAW", c -> {
            HemLine x = new HemLine();
            c.is("neither", x.foretell(1), -1);
            x.law(0);
            c.is("no PEOPLE", x.foretell(1), -1);
            HemLine y = new HemLine();
            y.person(1, 1, 1);
            c.is("no LAW", y.foretell(1), -1);
            c.is("count(6)", y.count(6), 0);
        });
        edge.of("29 doing nothing: not as told", c -> {
            HemLine x = EdgePeopleTests.town();
            for (int n : new int[] {0, -1, 51, LOW, HIGH}) c.is("foretell(" + n + ")", x.foretell(n), -1);
            c.untouched("foretell", x, EdgePeopleTests.town());
        });
        edge.of("29 doing nothing: 20 are there", c -> {
            HemLine[] both = {EdgePeopleTests.town(), EdgePeopleTests.town()};
            for (HemLine y : both) for (int n = 1; n <= 18; n++) y.foretell(n);
            c.is("the 21st", both[0].foretell(5), -1);
            c.untouched("foretell", both[0], both[1]);
            for (int k = 0; k < 20; k++) c.is("held(" + k + ", 0)", both[0].held(k, 0), both[1].held(k, 0));
        });
        edge.of("29 by the LAW in force, all else as it is now, nothing kept", c -> {
            HemLine x = EdgePeopleTests.town();
            HemLine y = EdgePeopleTests.town();
            int k = x.foretell(9);
            for (int p = 0; p < 3; p++) for (int what = 0; what < 7; what++) c.is("wears", x.wears(p, what), y.wears(p, what));
            x.run(9);
            y.run(9);
            c.is("the LINE foretold is the one that came", x.held(k, 2), 0);
            for (int s = 0; s < 15; s++) c.is("line(" + s + ")", x.line(s), y.line(s));
        });
        edge.of("29 behind SEASON 200, too", c -> {
            HemLine x = stayer(200);
            c.is("foretell(50)", x.foretell(50), 0);
            c.is("held(0, 1)", x.held(0, 1), 250);
            c.is("held(0, 0)", x.held(0, 0), 2000);
            c.is("held(0, 2)", x.held(0, 2), -1);
            c.is("held(0, 3)", x.held(0, 3), -1);
        });
    }

    private static void held(Edge edge) {
        edge.of("30 -2: none such", c -> {
            HemLine x = climber(60);
            c.is("of none", x.held(0, 0), -2);
            x.foretell(5);
            x.foretell(6);
            for (int k : new int[] {-1, 2, 19, 20, LOW, HIGH}) for (int what = 0; what < 4; what++) c.is("held(" + k + ", " + what + ")", x.held(k, what), -2);
            for (int what : new int[] {-1, 4, LOW, HIGH}) for (int k = 0; k < 2; k++) c.is("held(" + k + ", " + what + ")", x.held(k, what), -2);
            c.is("held(1, 1)", x.held(1, 1), 6);
        });
        edge.of("30 NONE: not RECORDED yet", c -> {
            HemLine x = climber(60);
            x.run(2);
            x.foretell(3);
            for (int s = 2; s < 5; s++) {
                c.is("held(0, 2) in " + s, x.held(0, 2), -1);
                c.is("held(0, 3) in " + s, x.held(0, 3), -1);
                x.run(1);
            }
            c.is("held(0, 2)", x.held(0, 2), 0);
            c.is("held(0, 3)", x.held(0, 3), 300);
            c.is("held(0, 0)", x.held(0, 0), 500);
            c.is("held(0, 1)", x.held(0, 1), 5);
        });
        edge.of("30 SEASON 200 gets RECORDED, 201 never does", c -> {
            HemLine x = stayer(190);
            x.foretell(10);
            x.foretell(11);
            x.run(10);
            c.is("held(0, 2)", x.held(0, 2), 0);
            c.is("held(1, 1)", x.held(1, 1), 201);
            c.is("held(1, 2)", x.held(1, 2), -1);
            c.is("held(1, 3)", x.held(1, 3), -1);
        });
        edge.of("30 how far off, above and below", c -> {
            HemLine x = Checks.follower(30);
            x.shows(0, 40);
            x.foretell(1);
            x.shows(0, 20);
            x.foretell(1);
            Checks.walk(x, 25);
            c.is("40 for 25", x.held(0, 2), 1500);
            c.is("30 as now", x.held(0, 3), 500);
            c.is("20 for 25", x.held(1, 2), 500);
            c.is("30 as now", x.held(1, 3), 500);
            c.is("the LINE foretold", x.held(1, 0), 2000);
        });
        edge.of("30 behind back() it isn't RECORDED any more", c -> {
            HemLine x = climber(60);
            x.foretell(2);
            x.image();
            x.run(2);
            c.is("held(0, 2)", x.held(0, 2), 0);
            x.back(0);
            c.is("held(0, 2)", x.held(0, 2), -1);
            c.is("held(0, 0)", x.held(0, 0), 200);
        });
    }
}
