import java.math.BigInteger;

/** The bounds that promises 1 to 7 name, each sentence in a test of its own. */
public final class EdgePeopleTests {
    private static final int LOW = Integer.MIN_VALUE;
    private static final int HIGH = Integer.MAX_VALUE;

    public static void main(String[] args) {
        Edge edge = new Edge();
        newObject(edge);
        person(edge);
        sees(edge);
        shows(edge);
        money(edge);
        set(edge);
        seed(edge);
        edge.end();
    }

    private static HemLine people(int n) {
        HemLine x = new HemLine();
        for (int p = 0; p < n; p++) x.person(p % 10, p, 2 * p);
        return x;
    }

    private static void newObject(Edge edge) {
        edge.of("1 no PEOPLE", c -> {
            HemLine x = new HemLine();
            c.is("count(0)", x.count(0), 0);
            for (int i = 0; i < 16; i++) c.is("wears(0, " + i + ")", x.wears(0, i), -1);
            c.is("length(0, 0)", x.length(0, 0), -1);
            c.is("street(NONE, 0)", x.street(-1, 0), 0);
            c.is("street(0, 0)", x.street(0, 0), -1);
            c.is("sees(0, 1, true)", x.sees(0, 1, true), false);
            c.is("led(0, 3)", x.led(0, 3), -1);
            c.is("alone(1, 1, 0)", x.alone(1, 1, 0), 0);
        });
        edge.of("1 no HOUSES: none shows", c -> {
            HemLine x = new HemLine();
            for (int h = 0; h < 4; h++) {
                c.is("count(" + (10 + h) + ")", x.count(10 + h), -1);
                c.is("followed(" + h + ", 0)", x.followed(h, 0), 0);
                c.is("followed(" + h + ", 1)", x.followed(h, 1), 0);
                c.is("luck(" + h + ", 0)", x.luck(h, 0), -1);
                c.is("luck(" + h + ", 1)", x.luck(h, 1), -1);
            }
        });
        edge.of("1 no LAWS", c -> {
            HemLine x = new HemLine();
            c.is("count(2)", x.count(2), 0);
            c.is("count(3)", x.count(3), -1);
            c.is("count(4)", x.count(4), 0);
            c.is("force(0)", x.force(0), false);
            c.is("read(NONE)", x.read(-1), -1);
            c.is("read(0)", x.read(0), -1);
            x.person(1, 1, 1);
            c.is("run(1)", x.run(1), -1);
            c.is("wears(0, 6)", x.wears(0, 6), -1);
            c.is("round(1, 0)", x.round(1, 0), -1);
            c.is("pushed(1, 1, 0, 0)", x.pushed(1, 1, 0, 0), -1);
            c.is("foretell(1)", x.foretell(1), -1);
            c.is("shop(1, 0)", x.shop(1, 0), -1);
        });
        edge.of("1 nothing else is there", c -> {
            HemLine x = new HemLine();
            for (int i : new int[] {1, 5, 6, 7, 8, 9}) c.is("count(" + i + ")", x.count(i), 0);
            c.is("fault()", x.fault(), -1);
            c.is("held(0, 0)", x.held(0, 0), -2);
            c.is("back(0)", x.back(0), false);
            c.is("law(1)", x.law(1), -2);
            c.is("best()", x.best(), -1);
            c.is("claim(0, 0)", x.claim(0, 0), 0);
            c.is("claim(0, 1)", x.claim(0, 1), 0);
            c.is("claim(0, 2)", x.claim(0, 2), 1);
        });
        edge.of("1 what needs PEOPLE has none", c -> {
            HemLine x = new HemLine();
            x.law(0);
            c.is("run(1)", x.run(1), -1);
            c.is("line(0)", x.line(0), -1);
            c.is("round(1, 0)", x.round(1, 0), -1);
            c.is("pushed(1, 1, 0, 0)", x.pushed(1, 1, 0, 0), -1);
            c.is("like(1, 0)", x.like(1, 0), -1);
            c.is("off(0, 0)", x.off(0, 0), -1);
            c.is("again(0, 0)", x.again(0, 0), -1);
            c.is("foretell(1)", x.foretell(1), -1);
            c.is("behind(0, 0)", x.behind(0, 0), -1);
            c.is("shop(1, 0)", x.shop(1, 0), -1);
            c.is("read(0) asks for none", x.read(0), 0);
            c.is("read(NONE)", x.read(-1), 0);
        });
    }

    private static void person(Edge edge) {
        edge.of("2 a RANK 0 to 9", c -> {
            HemLine x = new HemLine();
            for (int rank : new int[] {-1, 10, LOW, HIGH}) c.is("person(" + rank + ", 0, 0)", x.person(rank, 0, 0), -1);
            c.is("person(0, 0, 0)", x.person(0, 0, 0), 0);
            c.is("person(9, 0, 0)", x.person(9, 0, 0), 1);
            c.is("wears(0, 0)", x.wears(0, 0), 0);
            c.is("wears(1, 0)", x.wears(1, 0), 9);
        });
        edge.of("2 a PURSE 0 to 99", c -> {
            HemLine x = new HemLine();
            for (int purse : new int[] {-1, 100, LOW, HIGH}) c.is("person(0, " + purse + ", 0)", x.person(0, purse, 0), -1);
            c.is("person(0, 0, 0)", x.person(0, 0, 0), 0);
            c.is("person(0, 99, 0)", x.person(0, 99, 0), 1);
            c.is("wears(0, 1)", x.wears(0, 1), 0);
            c.is("wears(1, 1)", x.wears(1, 1), 99);
        });
        edge.of("2 a LENGTH 0 to 60", c -> {
            HemLine x = new HemLine();
            for (int length : new int[] {-1, 61, LOW, HIGH}) c.is("person(0, 0, " + length + ")", x.person(0, 0, length), -1);
            c.is("person(0, 0, 0)", x.person(0, 0, 0), 0);
            c.is("person(0, 0, 60)", x.person(0, 0, 60), 1);
            c.is("wears(0, 2)", x.wears(0, 2), 0);
            c.is("wears(1, 2)", x.wears(1, 2), 60);
            c.is("length(1, 0)", x.length(1, 0), 60);
        });
        edge.of("2 its number", c -> {
            HemLine x = new HemLine();
            for (int p = 0; p < 16; p++) {
                c.is("person", x.person(p % 10, p, 2 * p), p);
                c.is("count(0)", x.count(0), p + 1);
            }
            for (int p = 0; p < 16; p++) c.is("wears(" + p + ", 1)", x.wears(p, 1), p);
        });
        edge.of("2 PEOPLE, up to 16", c -> {
            HemLine x = people(15);
            c.is("the 16th", x.person(1, 2, 3), 15);
            c.is("the 17th", x.person(4, 5, 6), -1);
            c.is("the 17th again", x.person(0, 0, 0), -1);
            c.is("count(0)", x.count(0), 16);
            c.is("wears(15, 1)", x.wears(15, 1), 2);
            c.is("wears(16, 1)", x.wears(16, 1), -1);
        });
        edge.of("2 in SEASON 0 alone", c -> {
            HemLine x = Checks.follower(5);
            c.is("person in SEASON 0", x.person(1, 1, 1), 1);
            x.run(1);
            c.is("person in SEASON 1", x.person(1, 1, 1), -1);
            x.run(2);
            c.is("person in SEASON 3", x.person(1, 1, 1), -1);
            c.is("count(0)", x.count(0), 2);
        });
        edge.of("2 in SEASON 0 again, behind back()", c -> {
            HemLine x = Checks.follower(5);
            x.image();
            x.run(1);
            x.image();
            x.back(0);
            c.is("person in SEASON 0", x.person(1, 1, 7), 1);
            c.is("line(0)", x.line(0), 600);
            x.back(1);
            c.is("person in SEASON 1", x.person(1, 1, 1), -1);
            c.is("count(0)", x.count(0), 1);
        });
        edge.of("2 COIN 0, WORN 0 at first, it SEES nobody", c -> {
            HemLine x = people(16);
            for (int p = 0; p < 16; p++) {
                for (int what = 3; what < 6; what++) c.is("wears(" + p + ", " + what + ")", x.wears(p, what), 0);
                for (int what = 10; what < 16; what++) c.is("wears(" + p + ", " + what + ")", x.wears(p, what), 0);
            }
        });
        edge.of("2 COIN 0, WORN 0 at first, also where another one stood before back()", c -> {
            HemLine x = new HemLine();
            x.person(1, 1, 20);
            Checks.tell(x, "to all 60 if season=1;");
            x.image();
            for (int p = 1; p < 16; p++) x.person(9, 99, p);
            for (int p = 1; p < 16; p++) x.sees(p, p - 1, true);
            x.run(4);
            c.is("COIN before", x.wears(15, 3), 396);
            c.is("WORN before", x.wears(15, 4), 3);
            x.back(0);
            for (int p = 1; p < 16; p++) {
                c.is("person", x.person(2, 3, 4), p);
                int[] due = {2, 3, 4, 0, 0, 0};
                for (int what = 0; what < 6; what++) c.is("wears(" + p + ", " + what + ")", x.wears(p, what), due[what]);
                for (int what = 10; what < 16; what++) c.is("wears(" + p + ", " + what + ")", x.wears(p, what), 0);
            }
            c.is("line(0)", x.line(0), 500);
        });
        edge.of("2 doing nothing: not as told", c -> {
            HemLine x = town();
            HemLine twin = town();
            x.back(0);
            twin.back(0);
            int[][] wrong = {{-1, 5, 5}, {10, 5, 5}, {5, -1, 5}, {5, 100, 5}, {5, 5, -1}, {5, 5, 61}};
            for (int[] w : wrong) c.is("wrong person", x.person(w[0], w[1], w[2]), -1);
            c.untouched("wrong person", x, twin);
        });
        edge.of("2 doing nothing: 16 are there", c -> {
            HemLine[] both = {people(16), people(16)};
            for (HemLine x : both) {
                Checks.tell(x, "to all 3;");
                for (int p = 1; p < 16; p++) x.sees(p, p - 1, true);
            }
            c.is("the 17th", both[0].person(5, 5, 5), -1);
            c.untouched("the 17th", both[0], both[1]);
        });
        edge.of("2 doing nothing: a later SEASON", c -> {
            HemLine x = town();
            c.is("in a later SEASON", x.person(5, 5, 5), -1);
            c.untouched("in a later SEASON", x, town());
        });
    }

    /** Three PEOPLE some SEASONS on, by a LAW that asks for all, with an image of SEASON 0. */
    static HemLine town() {
        HemLine x = new HemLine();
        x.person(7, 9, 10);
        x.person(5, 4, 25);
        x.person(2, 1, 40);
        x.sees(1, 0, true);
        x.sees(2, 1, true);
        x.set(6, 2, 1);
        x.shows(0, 33);
        x.shows(2, 12);
        x.money(40);
        x.plate(1, 2, 20);
        Checks.tell(x, "to house 0 9 if chance<20;to above 5 if money<50;from all 7;");
        x.image();
        x.foretell(4);
        x.run(3);
        x.money(41);
        x.shows(0, 8);
        x.run(2);
        x.foretell(3);
        return x;
    }

    private static void sees(Edge edge) {
        edge.of("3 none such: the one who sees", c -> {
            HemLine x = people(3);
            for (int p : new int[] {-1, 3, 16, 31, 32, LOW, HIGH}) {
                c.is("sees(" + p + ", 0, true)", x.sees(p, 0, true), false);
                c.is("sees(" + p + ", 0, false)", x.sees(p, 0, false), false);
            }
            c.is("sees(0, 1, true)", x.sees(0, 1, true), true);
            c.is("sees(2, 1, true)", x.sees(2, 1, true), true);
            c.is("wears(0, 5)", x.wears(0, 5), 2);
            c.is("wears(1, 5)", x.wears(1, 5), 0);
            c.is("wears(2, 5)", x.wears(2, 5), 2);
        });
        edge.of("3 none such: the other", c -> {
            HemLine x = people(3);
            for (int p : new int[] {-1, 3, 16, 31, 32, LOW, HIGH}) {
                c.is("sees(0, " + p + ", true)", x.sees(0, p, true), false);
                c.is("sees(0, " + p + ", false)", x.sees(0, p, false), false);
            }
            c.is("sees(1, 0, true)", x.sees(1, 0, true), true);
            c.is("sees(1, 2, true)", x.sees(1, 2, true), true);
            c.is("wears(0, 5)", x.wears(0, 5), 0);
            c.is("wears(1, 5)", x.wears(1, 5), 5);
        });
        edge.of("3 none such: of sixteen", c -> {
            HemLine x = people(16);
            c.is("sees(15, 0, true)", x.sees(15, 0, true), true);
            c.is("sees(0, 15, true)", x.sees(0, 15, true), true);
            c.is("sees(16, 0, true)", x.sees(16, 0, true), false);
            c.is("sees(0, 16, true)", x.sees(0, 16, true), false);
            c.is("wears(15, 5)", x.wears(15, 5), 1);
            c.is("wears(0, 5)", x.wears(0, 5), 1 << 15);
        });
        edge.of("3 one and the same", c -> {
            HemLine x = people(16);
            for (int p = 0; p < 16; p++) {
                c.is("sees(p, p, true)", x.sees(p, p, true), false);
                c.is("sees(p, p, false)", x.sees(p, p, false), false);
                c.is("wears(p, 5)", x.wears(p, 5), 0);
            }
        });
        edge.of("3 one SEES another, or no more", c -> {
            HemLine x = people(3);
            c.is("no more, before", x.sees(0, 1, false), true);
            c.is("wears(0, 5)", x.wears(0, 5), 0);
            c.is("twice", x.sees(0, 1, true) && x.sees(0, 1, true), true);
            x.sees(0, 2, true);
            c.is("wears(0, 5)", x.wears(0, 5), 6);
            c.is("once no more", x.sees(0, 1, false), true);
            c.is("wears(0, 5)", x.wears(0, 5), 4);
            c.is("the other doesn't see one", x.wears(1, 5) + x.wears(2, 5), 0);
        });
        edge.of("3 all may see all others", c -> {
            HemLine x = people(16);
            for (int p = 0; p < 16; p++) for (int q = 0; q < 16; q++) if (p != q) x.sees(p, q, true);
            for (int p = 0; p < 16; p++) c.is("wears(" + p + ", 5)", x.wears(p, 5), 65535 - (1 << p));
        });
        edge.of("3 in a later SEASON, too", c -> {
            HemLine x = people(2);
            Checks.tell(x, "to all 60;");
            x.run(1);
            c.is("length(0, 1)", x.length(0, 1), 0);
            c.is("sees(0, 1, true)", x.sees(0, 1, true), true);
            x.run(1);
            c.is("length(0, 2)", x.length(0, 2), 2);
        });
    }

    private static void shows(Edge edge) {
        edge.of("4 a HOUSE (0 to 3)", c -> {
            HemLine x = new HemLine();
            for (int h : new int[] {-1, 4, LOW, HIGH}) c.is("shows(" + h + ", 5)", x.shows(h, 5), false);
            for (int h = 0; h < 4; h++) c.is("count(" + (10 + h) + ")", x.count(10 + h), -1);
            for (int h = 0; h < 4; h++) c.is("shows(" + h + ", 5)", x.shows(h, 5 + h), true);
            for (int h = 0; h < 4; h++) c.is("count(" + (10 + h) + ")", x.count(10 + h), 5 + h);
        });
        edge.of("4 shows a LENGTH: 0 to 60", c -> {
            HemLine x = new HemLine();
            c.is("shows(1, 0)", x.shows(1, 0), true);
            c.is("count(11)", x.count(11), 0);
            c.is("shows(1, 60)", x.shows(1, 60), true);
            c.is("count(11)", x.count(11), 60);
            for (int length : new int[] {61, -2, LOW, HIGH}) c.is("shows(1, " + length + ")", x.shows(1, length), false);
            c.is("count(11)", x.count(11), 60);
        });
        edge.of("4 NONE: none", c -> {
            HemLine x = new HemLine();
            c.is("shows(3, NONE) at first", x.shows(3, -1), true);
            x.shows(3, 7);
            x.shows(2, 8);
            c.is("shows(3, NONE)", x.shows(3, -1), true);
            c.is("count(13)", x.count(13), -1);
            c.is("count(12)", x.count(12), 8);
        });
        edge.of("4 from now on: till the next SEASON begins it's this one's", c -> {
            HemLine x = Checks.follower(10);
            x.shows(0, 50);
            x.shows(0, 20);
            x.run(1);
            c.is("wears(0, 2)", x.wears(0, 2), 20);
            c.is("count(10)", x.count(10), 20);
            x.shows(0, 30);
            // SEASON 0 showed 20, SEASON 1 shows 30 and has no next one
            c.is("followed(0, 1)", x.followed(0, 1), 1);
            c.is("followed(0, 0)", x.followed(0, 0), 1);
            x.run(1);
            c.is("followed(0, 0)", x.followed(0, 0), 2);
            x.shows(0, -1);
            x.run(1);
            c.is("what it showed before stays", x.followed(0, 1), 2);
        });
        edge.of("4 of each HOUSE what it showed, SEASON 0, too", c -> {
            HemLine x = Checks.follower(10);
            x.shows(3, 20);
            c.is("followed(3, 1) now", x.followed(3, 1), 0);
            x.run(1);
            x.shows(3, -1);
            x.run(1);
            c.is("followed(3, 1)", x.followed(3, 1), 1);
        });
    }

    private static void money(Edge edge) {
        edge.of("5 not 0 to 99", c -> {
            HemLine x = new HemLine();
            c.is("money(99)", x.money(99), true);
            for (int v : new int[] {-1, 100, LOW, HIGH}) c.is("money(" + v + ")", x.money(v), false);
            c.is("count(9)", x.count(9), 99);
            c.is("money(0)", x.money(0), true);
            c.is("count(9)", x.count(9), 0);
        });
        edge.of("5 from now on: till the next SEASON begins it's this one's", c -> {
            HemLine x = Checks.follower(10);
            x.money(5);
            Checks.walk(x, 11);
            c.is("MONEY goes on", x.count(9), 5);
            c.is("no couple: MONEY of now is that of the SEASON ahead", x.claim(0, 1), 0);
            x.money(9);
            c.is("a couple by MONEY of now", x.claim(0, 1), 1);
            x.money(4);
            c.is("of now", x.claim(0, 0), 0);
            x.money(6);
            c.is("of now", x.claim(0, 0), 1);
            Checks.walk(x, 12);
            x.money(99);
            c.is("SEASON 1 keeps its 6", x.claim(1, 1), 1);
            c.is("SEASON 1 keeps its 6", x.claim(1, 0), 1);
        });
        edge.of("5 MONEY 0 at first", c -> {
            HemLine x = new HemLine();
            x.person(1, 0, 10);
            x.shows(0, 60);
            Checks.tell(x, "to house 0 1 if money=0;");
            x.run(1);
            c.is("wears(0, 2)", x.wears(0, 2), 11);
        });
    }

    /** A PERSON with PURSE 99 who wears HOUSE 0 as soon as SEASON 21 comes: 2,079 coins by then. */
    private static HemLine buyer(int length) {
        HemLine x = new HemLine();
        x.person(1, 99, length);
        Checks.tell(x, "to house 0 60 if season=21;");
        return x;
    }

    /** What it paid for so many inches. */
    private static int paid(HemLine x, int inches) {
        x.shows(0, x.wears(0, 2) + inches);
        x.run(21);
        return 2079 - x.wears(0, 3);
    }

    private static void set(Edge edge) {
        edge.of("6 PRICE 0 to 999", c -> {
            HemLine x = buyer(10);
            c.is("set(999, 0, 0)", x.set(999, 0, 0), true);
            for (int v : new int[] {-1, 1000, LOW, HIGH}) c.is("set(" + v + ", 0, 0)", x.set(v, 0, 0), false);
            c.is("paid", paid(x, 1), 999);
            HemLine y = buyer(10);
            y.set(5, 0, 0);
            c.is("set(0, 0, 0)", y.set(0, 0, 0), true);
            c.is("paid", paid(y, 1), 0);
        });
        edge.of("6 SEAM 0 to 9", c -> {
            for (int inches = -10; inches <= 10; inches++) {
                HemLine x = buyer(30);
                c.is("set(5, 9, 3)", x.set(5, 9, 3), true);
                for (int v : new int[] {-1, 10, LOW, HIGH}) c.is("set(5, " + v + ", 3)", x.set(5, v, 3), false);
                c.is("paid for " + inches, paid(x, inches), inches == 0 ? 0 : Math.abs(inches) <= 9 ? 3 : 5);
            }
            HemLine y = buyer(30);
            c.is("set(5, 0, 3)", y.set(5, 0, 3), true);
            c.is("paid for an inch", paid(y, 1), 5);
        });
        edge.of("6 OVER 0 to 99", c -> {
            HemLine x = buyer(10);
            c.is("set(0, 1, 99)", x.set(0, 1, 99), true);
            for (int v : new int[] {-1, 100, LOW, HIGH}) c.is("set(0, 1, " + v + ")", x.set(0, 1, v), false);
            c.is("paid", paid(x, 1), 99);
            HemLine y = buyer(10);
            y.set(5, 1, 3);
            c.is("set(5, 1, 0)", y.set(5, 1, 0), true);
            c.is("paid", paid(y, 1), 0);
        });
        edge.of("6 doing nothing: not as told", c -> {
            int[][] wrong = {{-1, 9, 9}, {1000, 9, 9}, {99, -1, 9}, {99, 10, 9}, {99, 9, -1}, {99, 9, 100}};
            for (int[] w : wrong) {
                for (int inches = 2; inches <= 3; inches++) {
                    HemLine x = buyer(10);
                    x.set(7, 2, 4);
                    c.is("wrong set", x.set(w[0], w[1], w[2]), false);
                    c.is("paid for " + inches, paid(x, inches), inches == 2 ? 4 : 7);
                }
            }
        });
        edge.of("6 all 0 at first", c -> {
            HemLine x = buyer(10);
            c.is("paid", paid(x, 1), 0);
            c.is("by PRICE, for SEAM is 0", x.wears(0, 15), 1);
            c.is("not by OVER", x.wears(0, 14), 0);
            HemLine y = new HemLine();
            y.person(1, 0, 10);
            y.shows(0, 60);
            Checks.tell(y, "to house 0 1;");
            y.run(2);
            c.is("without a coin", y.wears(0, 2), 12);
        });
    }

    /** The CHANCES drawn from z on, by big numbers. */
    static int[] chances(long z, int n) {
        BigInteger all = BigInteger.ONE.shiftLeft(64);
        BigInteger now = BigInteger.valueOf(z);
        int[] drawn = new int[n];
        for (int i = 0; i < n; i++) {
            now = now.multiply(new BigInteger("6364136223846793005")).add(new BigInteger("1442695040888963407")).mod(all);
            drawn[i] = now.shiftRight(33).mod(BigInteger.valueOf(100)).intValue();
        }
        return drawn;
    }

    /** One PERSON who goes an inch up in each SEASON whose CHANCE is that of the list. */
    static HemLine drawer(int[] chances) {
        HemLine x = new HemLine();
        x.person(1, 0, 0);
        x.shows(0, 60);
        StringBuilder law = new StringBuilder("to house 0 1 if ");
        for (int i = 0; i < chances.length; i++) {
            law.append(i == 0 ? "" : " or ").append("season=").append(i + 1).append(" and chance=").append(chances[i]);
        }
        Checks.tell(x, law.append(';').toString());
        return x;
    }

    private static void seed(Edge edge) {
        edge.of("7 z 0 to 999,999,999", c -> {
            HemLine x = new HemLine();
            c.is("seed(0)", x.seed(0), true);
            c.is("seed(999999999)", x.seed(999_999_999), true);
            for (int z : new int[] {-1, 1_000_000_000, LOW, HIGH}) c.is("seed(" + z + ")", x.seed(z), false);
        });
        edge.of("7 z is that: 0", c -> {
            HemLine x = drawer(chances(0, 20));
            x.seed(5);
            c.is("seed(0)", x.seed(0), true);
            x.run(20);
            c.is("SEASONS with the CHANCE that's due", x.wears(0, 2), 20);
        });
        edge.of("7 z is that: 999,999,999", c -> {
            HemLine x = drawer(chances(999_999_999, 20));
            c.is("seed(999999999)", x.seed(999_999_999), true);
            x.run(20);
            c.is("SEASONS with the CHANCE that's due", x.wears(0, 2), 20);
        });
        edge.of("7 none such: z stays", c -> {
            for (int z : new int[] {-1, 1_000_000_000}) {
                HemLine x = drawer(chances(77, 20));
                x.seed(77);
                c.is("seed(" + z + ")", x.seed(z), false);
                x.run(20);
                c.is("SEASONS with the CHANCE that's due", x.wears(0, 2), 20);
            }
        });
        edge.of("7 z, 1 at first", c -> {
            HemLine x = drawer(chances(1, 20));
            x.run(20);
            c.is("SEASONS with the CHANCE that's due", x.wears(0, 2), 20);
        });
        edge.of("7 64 bits, wrapping; shifted by 33, 0 coming in; modulo 100", c -> {
            int[] seen = new int[100];
            for (int z = 1; z <= 50; z++) {
                int[] due = chances(z * 19_999_999L, 20);
                HemLine x = drawer(due);
                x.seed(z * 19_999_999);
                x.run(20);
                c.is("from " + z * 19_999_999 + " on", x.wears(0, 2), 20);
                for (int chance : due) seen[chance]++;
            }
            c.is("0 and 99 were among them", seen[0] > 0 && seen[99] > 0, true);
        });
        edge.of("7 for each PERSON by numbers", c -> {
            int[] due = chances(4, 48);
            HemLine x = new HemLine();
            for (int p = 0; p < 16; p++) x.person(1, p, 0);
            x.shows(0, 60);
            x.seed(4);
            for (int season = 1; season <= 3; season++) {
                int p = 5 * season;
                Checks.tell(x, "to house 0 9 if purse=" + p + " and chance=" + due[16 * season - 16 + p] + ";");
                x.run(1);
                c.is("wears(" + p + ", 2)", x.wears(p, 2), 9);
            }
        });
    }
}
