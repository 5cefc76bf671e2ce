/** The bounds that promises 18 to 21, 28 and 31 name, each sentence in a test of its own. */
public final class EdgePastTests {
    private static final int LOW = Integer.MIN_VALUE;
    private static final int HIGH = Integer.MAX_VALUE;

    public static void main(String[] args) {
        Edge edge = new Edge();
        led(edge);
        alone(edge);
        like(edge);
        street(edge);
        again(edge);
        behind(edge);
        edge.end();
    }

    /** RANK 1 goes from a LENGTH to another, seeing RANKS 2 (above), 0 (below) and 1 (alike) that stay. */
    private static HemLine mover(int from, int to, int above, int below, int alike) {
        HemLine x = new HemLine();
        x.person(1, 9, from);
        x.person(2, 0, above);
        x.person(0, 0, below);
        x.person(1, 0, alike);
        for (int p = 1; p < 4; p++) x.sees(0, p, true);
        x.shows(0, to);
        Checks.tell(x, "to house 0 60 if purse=9;");
        x.run(1);
        return x;
    }

    private static void led(Edge edge) {
        edge.of("18 none such", c -> {
            HemLine x = mover(10, 20, 30, 5, 25);
            for (int p : new int[] {-1, 4, 16, LOW, HIGH}) for (int what = 0; what < 4; what++) c.is("led(" + p + ", " + what + ")", x.led(p, what), -1);
            for (int what : new int[] {-1, 4, LOW, HIGH}) c.is("led(0, " + what + ")", x.led(0, what), -1);
            c.is("led(0, 3)", x.led(0, 3), 1);
            c.is("led(3, 3)", x.led(3, 3), 0);
        });
        edge.of("18 in SEASON 0 there are no CHANGES", c -> {
            HemLine x = Checks.dancers(10, 20);
            x.sees(0, 1, true);
            for (int what = 0; what < 4; what++) c.is("led(0, " + what + ")", x.led(0, what), 0);
        });
        edge.of("18 CHANGES: another LENGTH than ahead", c -> {
            HemLine x = Checks.follower(10);
            Checks.walk(x, 10, 11, 11, 10, 10, 60, 60, 0, 1);
            c.is("led(0, 3)", x.led(0, 3), 5);
        });
        edge.of("18 nearer to the MEAN of above, not as near", c -> {
            c.is("nearer", mover(10, 20, 30, 0, 0).led(0, 0), 1);
            c.is("nearer beyond it", mover(10, 49, 30, 0, 0).led(0, 0), 1);
            c.is("as near beyond it", mover(10, 50, 30, 0, 0).led(0, 0), 0);
            c.is("further", mover(10, 9, 30, 0, 0).led(0, 0), 0);
            c.is("away from it", mover(30, 31, 30, 0, 0).led(0, 0), 0);
            c.is("to it", mover(29, 30, 30, 0, 0).led(0, 0), 1);
        });
        edge.of("18 further from that of below, not as far", c -> {
            c.is("further", mover(10, 20, 0, 5, 0).led(0, 1), 1);
            c.is("further on the other side", mover(10, 0, 0, 6, 0).led(0, 1), 1);
            c.is("as far on the other side", mover(10, 0, 0, 5, 0).led(0, 1), 0);
            c.is("nearer", mover(10, 9, 0, 5, 0).led(0, 1), 0);
            c.is("away from it", mover(5, 6, 0, 5, 0).led(0, 1), 1);
        });
        edge.of("18 nearer to that of alike, not as near", c -> {
            c.is("nearer", mover(10, 20, 0, 0, 30).led(0, 2), 1);
            c.is("as near", mover(10, 50, 0, 0, 30).led(0, 2), 0);
            c.is("further", mover(10, 51, 0, 0, 30).led(0, 2), 0);
        });
        edge.of("18 without such a MEAN none are led, but there are CHANGES", c -> {
            HemLine x = mover(10, 20, 30, 5, 25);
            for (int what = 0; what < 3; what++) {
                c.is("led(0, " + what + ")", x.led(0, what), 1);
                x.sees(0, what + 1, false);
                c.is("without it", x.led(0, what), 0);
            }
            c.is("led(0, 3)", x.led(0, 3), 1);
        });
        edge.of("18 by whom it SEES now", c -> {
            HemLine x = mover(10, 20, 30, 5, 25);
            x.sees(0, 1, false);
            c.is("above no more", x.led(0, 0), 0);
            c.is("below still", x.led(0, 1), 1);
            x.sees(0, 1, true);
            c.is("above again", x.led(0, 0), 1);
        });
        edge.of("18 the MEAN of the SEASON ahead", c -> {
            HemLine x = Checks.dancers(10, 10);
            x.sees(0, 1, true);
            Checks.step(x, 12, 40);
            c.is("away from 10, though nearer to 40", x.led(0, 0), 0);
            Checks.step(x, 20, 0);
            c.is("nearer to 40", x.led(0, 0), 1);
        });
        edge.of("18 a MEAN is cut", c -> {
            HemLine x = Checks.dancers(11, 10, 11);
            x.sees(0, 1, true);
            x.sees(0, 2, true);
            // above is 10: from 11 to 10 is nearer
            Checks.step(x, 10, 10, 11);
            c.is("led(0, 0)", x.led(0, 0), 1);
        });
        edge.of("18 all of 200 SEASONS", c -> {
            HemLine x = new HemLine();
            x.person(1, 0, 0);
            x.person(2, 0, 0);
            x.sees(0, 1, true);
            x.shows(0, 1);
            Checks.tell(x, "to house 0 1 if length=0 and rank=1;to above 1;");
            for (int i = 0; i < 4; i++) x.run(50);
            c.is("CHANGES", x.led(0, 3), 200);
            c.is("nearer to 0", x.led(0, 0), 100);
        });
    }

    private static void alone(Edge edge) {
        edge.of("19 none such", c -> {
            HemLine x = Checks.dancers(10, 20);
            for (int gap : new int[] {0, -1, 61, LOW, HIGH}) for (int what = 0; what < 3; what++) c.is("gap " + gap, x.alone(gap, 5, what), -1);
            for (int n : new int[] {0, -1, 21, LOW, HIGH}) for (int what = 0; what < 3; what++) c.is("n " + n, x.alone(5, n, what), -1);
            for (int what : new int[] {-1, 3, LOW, HIGH}) c.is("what " + what, x.alone(5, 5, what), -1);
            for (int gap : new int[] {1, 60}) for (int n : new int[] {1, 20}) for (int what = 0; what < 3; what++) c.is("taken", x.alone(gap, n, what), 0);
        });
        edge.of("19 no PEOPLE: no STARTS", c -> {
            for (int what = 0; what < 3; what++) c.is("alone(1, 1, " + what + ")", new HemLine().alone(1, 1, what), 0);
        });
        edge.of("19 nobody else's LENGTH is less than the gap off", c -> {
            for (int off = 1; off <= 60; off++) {
                HemLine x = Checks.dancers(0, 0);
                Checks.step(x, 0, off);
                c.is("a gap of " + off, x.alone(off, 1, 0), 2);
                if (off < 60) c.is("a gap of " + (off + 1), x.alone(off + 1, 1, 0), 0);
                if (off > 1) c.is("a gap of " + (off - 1), x.alone(off - 1, 1, 0), 2);
            }
            HemLine y = Checks.dancers(60, 60);
            Checks.step(y, 0, 60);
            c.is("60 below", y.alone(60, 1, 0), 2);
        });
        edge.of("19 the same LENGTH is never ALONE", c -> {
            HemLine x = Checks.dancers(5, 5, 5);
            Checks.step(x, 7, 7, 9);
            c.is("a gap of 1", x.alone(1, 1, 0), 1);
            c.is("a gap of 2", x.alone(2, 1, 0), 1);
            c.is("a gap of 3", x.alone(3, 1, 0), 0);
        });
        edge.of("19 one PERSON is ALONE from SEASON 0 on, which is no START", c -> {
            HemLine x = Checks.follower(10);
            Checks.walk(x, 20, 30);
            for (int what = 0; what < 3; what++) c.is("alone(1, 20, " + what + ")", x.alone(1, 20, what), 0);
        });
        edge.of("19 ALONE in a SEASON and not in the one ahead", c -> {
            HemLine x = Checks.dancers(10, 20);
            Checks.step(x, 10, 20);
            c.is("ALONE since SEASON 0", x.alone(5, 20, 0), 0);
            Checks.step(x, 10, 14);
            c.is("no more", x.alone(5, 20, 0), 0);
            Checks.step(x, 10, 15);
            c.is("both again", x.alone(5, 20, 0), 2);
            Checks.step(x, 10, 16);
            c.is("still", x.alone(5, 20, 0), 2);
            Checks.step(x, 10, 14);
            Checks.step(x, 10, 5);
            c.is("both once more", x.alone(5, 20, 0), 4);
        });
        edge.of("19 LEFT in n SEASONS (1 to 20)", c -> {
            for (int wait : new int[] {1, 2, 19, 20, 21}) {
                HemLine x = Checks.dancers(10, 10);
                Checks.step(x, 10, 60);
                for (int i = 1; i < wait; i++) x.run(1);
                c.is("not LEFT yet", x.alone(5, 20, 2), 0);
                Checks.step(x, 11, 60);
                if (wait <= 20) c.is("LEFT in the " + wait + "th", x.alone(5, wait, 2), 1);
                if (wait > 1) c.is("not in " + (wait - 1), x.alone(5, wait - 1, 2), 0);
                c.is("in 20", x.alone(5, 20, 2), wait <= 20 ? 1 : 0);
                c.is("TAKEN", x.alone(5, 20, 1), 0);
            }
        });
        edge.of("19 TAKEN in n SEASONS (1 to 20)", c -> {
            for (int wait : new int[] {1, 2, 19, 20, 21}) {
                HemLine x = Checks.dancers(10, 10);
                Checks.step(x, 10, 60);
                for (int i = 1; i < wait; i++) x.run(1);
                c.is("not TAKEN yet", x.alone(5, 20, 1), 0);
                Checks.step(x, 10, 14);
                if (wait <= 20) c.is("TAKEN in the " + wait + "th", x.alone(5, wait, 1), 1);
                if (wait > 1) c.is("not in " + (wait - 1), x.alone(5, wait - 1, 1), 0);
                c.is("in 20", x.alone(5, 20, 1), wait <= 20 ? 1 : 0);
                c.is("the other one LEFT", x.alone(5, 20, 2), wait <= 20 ? 1 : 0);
            }
        });
        edge.of("19 of each the first that's so", c -> {
            HemLine x = Checks.dancers(10, 10);
            Checks.step(x, 10, 60);
            Checks.step(x, 10, 12);
            Checks.step(x, 30, 12);
            // TAKEN first, so what it wears then doesn't count for the first START; both START anew
            c.is("TAKEN", x.alone(5, 20, 1), 1);
            c.is("LEFT: the other one", x.alone(5, 20, 2), 1);
            c.is("STARTS", x.alone(5, 20, 0), 4);
            HemLine y = Checks.dancers(10, 10);
            Checks.step(y, 10, 60);
            Checks.step(y, 11, 60);
            Checks.step(y, 58, 60);
            c.is("LEFT first", y.alone(5, 20, 2), 1);
            c.is("TAKEN: the other one", y.alone(5, 20, 1), 1);
        });
        edge.of("19 another LENGTH and not ALONE in one SEASON: LEFT", c -> {
            HemLine x = Checks.dancers(10, 10);
            Checks.step(x, 10, 60);
            Checks.step(x, 57, 60);
            c.is("LEFT", x.alone(5, 20, 2), 1);
            c.is("TAKEN: the one who stood", x.alone(5, 20, 1), 1);
        });
        edge.of("19 STARTS, whatever n", c -> {
            HemLine x = Checks.dancers(10, 10, 60);
            Checks.step(x, 10, 30, 60);
            for (int n = 1; n <= 20; n++) c.is("alone(5, " + n + ", 0)", x.alone(5, n, 0), 2);
        });
        edge.of("19 a START in the last SEASON is neither TAKEN nor LEFT yet", c -> {
            HemLine x = Checks.dancers(10, 10);
            Checks.step(x, 10, 60);
            c.is("alone(5, 20, 1)", x.alone(5, 20, 1), 0);
            c.is("alone(5, 20, 2)", x.alone(5, 20, 2), 0);
        });
        edge.of("19 of sixteen, the last one, too", c -> {
            HemLine x = new HemLine();
            for (int p = 0; p < 16; p++) x.person(p < 15 ? 1 : 2, 0, 10);
            x.shows(0, 60);
            Checks.tell(x, "to house 0 60 if rank=2;");
            x.run(1);
            c.is("STARTS", x.alone(50, 1, 0), 1);
            c.is("a gap of 51", x.alone(51, 1, 0), 0);
        });
    }

    private static void like(Edge edge) {
        edge.of("20 LIKE n (1 to 10); what 0 and 1", c -> {
            HemLine x = Checks.follower(10);
            Checks.walk(x, 11, 12, 13, 14, 15, 16, 17, 18, 19, 20, 21);
            for (int n : new int[] {0, -1, 11, LOW, HIGH}) for (int what = 0; what < 2; what++) c.is("like(" + n + ", " + what + ")", x.like(n, what), -1);
            for (int what : new int[] {-1, 2, LOW, HIGH}) c.is("like(1, " + what + ")", x.like(1, what), -1);
            c.is("like(1, 0)", x.like(1, 0), 10);
            c.is("like(10, 0)", x.like(10, 0), 10);
            c.is("like(10, 1)", x.like(10, 1), 2200);
        });
        edge.of("20 no PEOPLE", c -> {
            HemLine x = new HemLine();
            c.is("like(1, 0)", x.like(1, 0), -1);
            c.is("like(1, 1)", x.like(1, 1), -1);
        });
        edge.of("20 none: with a next one and n less 1 ahead", c -> {
            HemLine x = Checks.follower(0);
            for (int s = 0; s <= 11; s++) {
                for (int n = 1; n <= 10; n++) {
                    c.is("like(" + n + ", 0) in " + s, x.like(n, 0), s >= n ? s - 1 : -1);
                    if (n == s + 1) c.is("no GUESS", x.like(n, 1), -1);
                }
                Checks.walk(x, 5 * s + 5 > 60 ? 60 : 5 * s + 5);
            }
        });
        edge.of("20 SEASON 0, if n is 1", c -> {
            HemLine x = Checks.follower(10);
            Checks.walk(x, 40, 50, 11);
            c.is("like(1, 0)", x.like(1, 0), 0);
            c.is("like(1, 1)", x.like(1, 1), 4100);
            c.is("like(2, 0): from SEASON 1 on", x.like(2, 0), 2);
        });
        edge.of("20 least off, together", c -> {
            HemLine x = Checks.follower(20);
            Checks.walk(x, 30, 24, 30, 22, 33, 22, 31);
            // against (22, 31): (20, 30) 3, (30, 24) 15, (24, 30) 3, (30, 22) 17, (22, 33) 2, (33, 22) 20
            c.is("like(2, 0)", x.like(2, 0), 5);
            c.is("like(2, 1)", x.like(2, 1), 2200 + 3100 - 3300);
            // against (33, 22, 31): (20, 30, 24) 28, (30, 24, 30) 6, (24, 30, 22) 26, (30, 22, 33) 5, (22, 33, 22) 31
            c.is("like(3, 0)", x.like(3, 0), 5);
            c.is("like(4, 0)", x.like(4, 0), 5);
        });
        edge.of("20 of now, with those ahead: neither alone", c -> {
            HemLine x = Checks.follower(22);
            Checks.walk(x, 50, 25, 33, 40, 31, 22, 31);
            // against (22, 31): (22, 50) 19, (50, 25) 34, (25, 33) 5, (33, 40) 20, (40, 31) 18, (31, 22) 18
            c.is("like(2, 0)", x.like(2, 0), 3);
            c.is("like(2, 1)", x.like(2, 1), 4000 + 3100 - 3300);
            c.is("like(1, 0)", x.like(1, 0), 5);
        });
        edge.of("20 of several the latest", c -> {
            HemLine x = Checks.follower(20);
            Checks.walk(x, 22, 30, 20, 40, 22, 50, 21);
            c.is("20, 22, 20, 22 are all one off", x.like(1, 0), 5);
            c.is("the GUESS by the latest", x.like(1, 1), 5000 + 2100 - 2200);
            Checks.walk(x, 60, 21);
            c.is("none off", x.like(1, 0), 7);
        });
        edge.of("20 the GUESS may be below 0 or above 6,000", c -> {
            HemLine x = Checks.follower(60);
            Checks.walk(x, 0, 30);
            // against 30: 60 and 0 are alike far off, the latest is 0, its next one 30
            c.is("like(1, 1)", x.like(1, 1), 3000 + 3000);
            Checks.walk(x, 60, 59);
            c.is("60 is nearest, then 59", x.like(1, 1), 5900 + 5900 - 6000);
            HemLine y = Checks.follower(20);
            Checks.walk(y, 0, 10);
            c.is("below", y.like(1, 1), 1000 + 1000);
            HemLine z = Checks.follower(20);
            Checks.walk(z, 0, 19);
            c.is("-100", z.like(1, 1), 0 + 1900 - 2000);
            HemLine w = Checks.follower(40);
            Checks.walk(w, 60, 41);
            c.is("6100", w.like(1, 1), 6000 + 4100 - 4000);
        });
        edge.of("20 up to the SEASON ahead of now", c -> {
            HemLine x = Checks.follower(10);
            Checks.walk(x, 30, 30);
            c.is("now is none of them", x.like(1, 0), 1);
            c.is("like(2, 0)", x.like(2, 0), 1);
            c.is("like(3, 0)", x.like(3, 0), -1);
        });
    }

    private static HemLine crowd(int n) {
        HemLine x = new HemLine();
        for (int p = 0; p < n; p++) x.person(p % 10, 0, 3 * p);
        return x;
    }

    private static void street(Edge edge) {
        edge.of("21 how many (PERSON NONE): what 0 alone", c -> {
            HemLine x = crowd(3);
            c.is("street(NONE, 0)", x.street(-1, 0), 3);
            for (int what : new int[] {-1, 1, 2, LOW, HIGH}) c.is("street(NONE, " + what + ")", x.street(-1, what), -1);
        });
        edge.of("21 none such PERSON", c -> {
            HemLine x = crowd(3);
            for (int p : new int[] {-2, 3, 16, LOW, HIGH}) for (int what = 0; what < 2; what++) c.is("street(" + p + ", " + what + ")", x.street(p, what), -1);
            for (int p = 0; p < 3; p++) c.is("street(" + p + ", 0)", x.street(p, 0), p);
        });
        edge.of("21 none such what", c -> {
            HemLine x = crowd(3);
            for (int what : new int[] {-1, 2, LOW, HIGH}) for (int p = 0; p < 3; p++) c.is("street(" + p + ", " + what + ")", x.street(p, what), -1);
        });
        edge.of("21 none without PEOPLE, one each without ties, one of all", c -> {
            c.is("of none", new HemLine().street(-1, 0), 0);
            for (int n = 1; n <= 16; n++) {
                HemLine x = crowd(n);
                c.is("without ties", x.street(-1, 0), n);
                for (int p = 1; p < n; p++) x.sees(p, p - 1, true);
                c.is("of all", x.street(-1, 0), 1);
                for (int p = 0; p < n; p++) c.is("the least", x.street(p, 0), 0);
            }
        });
        edge.of("21 one SEES the other: either way is enough", c -> {
            HemLine x = crowd(4);
            x.sees(0, 3, true);
            c.is("street(3, 0)", x.street(3, 0), 0);
            c.is("street(0, 0)", x.street(0, 0), 0);
            x.sees(2, 1, true);
            c.is("street(2, 0)", x.street(2, 0), 1);
            c.is("street(1, 0)", x.street(1, 0), 1);
            c.is("street(NONE, 0)", x.street(-1, 0), 2);
            x.sees(0, 3, false);
            c.is("no more", x.street(3, 0), 3);
            c.is("street(NONE, 0)", x.street(-1, 0), 3);
        });
        edge.of("21 all who hang together so", c -> {
            HemLine x = crowd(16);
            // 15 - 7 - 12 - 3 and 14 - 2, by ties that point this way and that
            x.sees(15, 7, true);
            x.sees(12, 7, true);
            x.sees(12, 3, true);
            x.sees(2, 14, true);
            for (int p : new int[] {15, 7, 12, 3}) c.is("street(" + p + ", 0)", x.street(p, 0), 3);
            for (int p : new int[] {2, 14}) c.is("street(" + p + ", 0)", x.street(p, 0), 2);
            c.is("street(NONE, 0)", x.street(-1, 0), 12);
            c.is("street(7, 1)", x.street(7, 1), (45 + 21 + 36 + 9) * 100 / 4);
            c.is("street(14, 1)", x.street(14, 1), 2400);
        });
        edge.of("21 LINE of a STREET, cut, now", c -> {
            HemLine x = Checks.dancers(10, 10, 11, 60);
            x.sees(0, 1, true);
            x.sees(1, 2, true);
            c.is("31 by 3", x.street(2, 1), 1033);
            c.is("one by itself", x.street(3, 1), 6000);
            Checks.step(x, 0, 0, 0, 0);
            c.is("0", x.street(0, 1), 0);
            Checks.step(x, 1, 0, 1, 0);
            c.is("2 by 3", x.street(0, 1), 66);
        });
    }

    private static void again(Edge edge) {
        edge.of("28 none such", c -> {
            HemLine x = Checks.follower(0);
            for (int length : new int[] {-1, 61, LOW, HIGH}) for (int what = 0; what < 3; what++) c.is("again(" + length + ", " + what + ")", x.again(length, what), -1);
            for (int what : new int[] {-1, 3, LOW, HIGH}) c.is("again(5, " + what + ")", x.again(5, what), -1);
            c.is("again(0, 0)", x.again(0, 0), 1);
            c.is("again(60, 0)", x.again(60, 0), 0);
            c.is("again(60, 0) of 60", Checks.follower(60).again(60, 0), 1);
        });
        edge.of("28 no PEOPLE", c -> {
            for (int what = 0; what < 3; what++) c.is("again(5, " + what + ")", new HemLine().again(5, what), -1);
        });
        edge.of("28 less than 100 from 100 times it", c -> {
            HemLine x = Checks.follower(10);
            for (int length = 8; length <= 12; length++) c.is("again(" + length + ", 0)", x.again(length, 0), length == 10 ? 1 : 0);
            for (int more = 1; more <= 15; more++) {
                // a LINE of 1000 and some: 1006 .. 1093
                HemLine y = new HemLine();
                for (int p = 0; p < 16; p++) y.person(1, 1, p < more ? 11 : 10);
                int[] due = {0, 1, 1, 0};
                for (int i = 0; i < 4; i++) c.is("again(" + (9 + i) + ", 0) of " + y.line(0), y.again(9 + i, 0), due[i]);
            }
        });
        edge.of("28 SEASON 0 and now are RECORDED", c -> {
            HemLine x = Checks.follower(10);
            Checks.walk(x, 20, 20, 10);
            c.is("again(10, 0)", x.again(10, 0), 2);
            c.is("again(10, 1)", x.again(10, 1), 2);
            c.is("again(10, 2)", x.again(10, 2), 2);
        });
        edge.of("28 rows, one behind the other", c -> {
            HemLine x = Checks.follower(10);
            Checks.walk(x, 10, 10, 20, 10, 20, 10, 10);
            c.is("visits", x.again(10, 0), 6);
            c.is("rows", x.again(10, 1), 3);
            c.is("visits of 20", x.again(20, 0), 2);
            c.is("rows of 20", x.again(20, 1), 2);
            c.is("the longest way", x.again(10, 2), 1);
            c.is("the longest way of 20", x.again(20, 2), 1);
        });
        edge.of("28 the longest way: 0 without two", c -> {
            HemLine x = Checks.follower(10);
            c.is("one row", x.again(10, 2), 0);
            c.is("none", x.again(30, 2), 0);
            Checks.walk(x, 30, 30, 30, 40, 40);
            c.is("one row that ended", x.again(10, 2), 0);
            c.is("one row in the middle", x.again(30, 2), 0);
            c.is("one row now", x.again(40, 2), 0);
            c.is("rows", x.again(40, 1), 1);
        });
        edge.of("28 the longest way between two rows, the first, the middle or the last", c -> {
            HemLine x = Checks.follower(10);
            Checks.walk(x, 20, 20, 20, 10, 20, 10);
            c.is("the first", x.again(10, 2), 3);
            Checks.walk(x, 20, 20, 20, 20, 10, 10, 20);
            c.is("the last", x.again(10, 2), 4);
            Checks.walk(x, 20, 20, 20, 20, 20, 20);
            c.is("not behind the last row", x.again(10, 2), 4);
            HemLine y = Checks.follower(20);
            Checks.walk(y, 20, 20, 20, 10, 20, 10);
            c.is("nor ahead of the first", y.again(10, 2), 1);
        });
        edge.of("28 all of 201 SEASONS", c -> {
            HemLine x = Checks.follower(10);
            x.shows(0, 10);
            for (int i = 0; i < 4; i++) x.run(50);
            c.is("visits", x.again(10, 0), 201);
            c.is("rows", x.again(10, 1), 1);
            HemLine y = Checks.follower(10);
            Checks.walk(y, 20);
            for (int i = 0; i < 3; i++) y.run(60);
            y.run(18);
            Checks.walk(y, 10);
            c.is("count(1)", y.count(1), 200);
            c.is("the longest way", y.again(10, 2), 199);
        });
    }

    private static void behind(Edge edge) {
        edge.of("31 none such", c -> {
            HemLine x = crowd(3);
            for (int purse : new int[] {-1, 100, LOW, HIGH}) for (int what = 0; what < 4; what++) c.is("behind(" + purse + ", " + what + ")", x.behind(purse, what), -1);
            for (int what : new int[] {-1, 4, LOW, HIGH}) c.is("behind(5, " + what + ")", x.behind(5, what), -1);
            c.is("behind(0, 1)", x.behind(0, 1), 3);
            c.is("behind(99, 1)", x.behind(99, 1), 3);
        });
        edge.of("31 no PEOPLE", c -> {
            for (int what = 0; what < 4; what++) c.is("behind(5, " + what + ")", new HemLine().behind(5, what), -1);
        });
        edge.of("31 a PURSE not above the line", c -> {
            HemLine x = new HemLine();
            int[] purses = {0, 1, 49, 50, 51, 98, 99};
            for (int purse : purses) x.person(1, purse, 10);
            for (int line = 0; line <= 99; line++) {
                int below = 0;
                for (int purse : purses) below += purse <= line ? 1 : 0;
                c.is("behind(" + line + ", 1)", x.behind(line, 1), below);
                c.is("behind(" + line + ", 3)", x.behind(line, 3), 7 - below);
            }
        });
        edge.of("31 how far 100 times the LENGTH is from the LINE now, together", c -> {
            HemLine x = Checks.dancers(10, 20, 31);
            // LINE 2033
            c.is("all", x.behind(0, 0), 1033 + 33 + 1067);
            c.is("others: none", x.behind(0, 2), 0);
            c.is("others: none", x.behind(0, 3), 0);
            Checks.step(x, 60, 60, 60);
            c.is("now", x.behind(0, 0), 0);
            HemLine y = new HemLine();
            y.person(1, 5, 10);
            y.person(1, 6, 40);
            int[] due = {1500, 1, 1500, 1};
            for (int what = 0; what < 4; what++) c.is("behind(5, " + what + ")", y.behind(5, what), due[what]);
            int[] none = {0, 0, 3000, 2};
            for (int what = 0; what < 4; what++) c.is("behind(4, " + what + ")", y.behind(4, what), none[what]);
            int[] both = {3000, 2, 0, 0};
            for (int what = 0; what < 4; what++) c.is("behind(6, " + what + ")", y.behind(6, what), both[what]);
        });
    }
}
