/** The bounds that promises 34 to 36 name, each sentence in a test of its own, and the fullest object there is. */
public final class EdgeImageTests {
    private static final int LOW = Integer.MIN_VALUE;
    private static final int HIGH = Integer.MAX_VALUE;

    public static void main(String[] args) {
        Edge edge = new Edge();
        image(edge);
        back(edge);
        kept(edge);
        notKept(edge);
        count(edge);
        full(edge);
        edge.end();
    }

    private static void image(Edge edge) {
        edge.of("34 its number, up to 3", c -> {
            HemLine x = Checks.follower(10);
            for (int i = 0; i < 3; i++) {
                c.is("image()", x.image(), i);
                c.is("count(7)", x.count(7), i + 1);
            }
            c.is("the fourth", x.image(), -1);
            c.is("the fourth", x.image(), -1);
            c.is("count(7)", x.count(7), 3);
        });
        edge.of("34 the fourth leaves the three", c -> {
            HemLine x = Checks.follower(10);
            for (int i = 0; i < 3; i++) {
                x.image();
                Checks.walk(x, 20 + i);
            }
            c.is("the fourth", x.image(), -1);
            c.is("wears(0, 2)", x.wears(0, 2), 22);
            int[] due = {10, 20, 21};
            for (int i = 2; i >= 0; i--) {
                c.is("back(" + i + ")", x.back(i), true);
                c.is("wears(0, 2)", x.wears(0, 2), due[i]);
                c.is("count(1)", x.count(1), i);
            }
            c.is("none more behind back()", x.image(), -1);
        });
        edge.of("34 of a new object", c -> {
            HemLine x = new HemLine();
            c.is("image()", x.image(), 0);
            x.person(1, 1, 1);
            c.is("back(0)", x.back(0), true);
            c.is("count(0)", x.count(0), 0);
            c.is("person", x.person(2, 2, 2), 0);
            c.is("wears(0, 0)", x.wears(0, 0), 2);
        });
        edge.of("34 of SEASON 200", c -> {
            HemLine x = Checks.follower(10);
            for (int i = 1; i <= 4; i++) {
                x.shows(0, 10 * i);
                x.run(50);
            }
            x.image();
            c.is("back(0)", x.back(0), true);
            for (int s = 1; s <= 200; s += 7) c.is("line(" + s + ")", x.line(s), 1000 * ((s + 49) / 50));
            c.is("line(200)", x.line(200), 4000);
            c.is("run(1)", x.run(1), -1);
        });
    }

    private static void back(Edge edge) {
        edge.of("35 none such", c -> {
            HemLine x = Checks.follower(10);
            c.is("back(0) of none", x.back(0), false);
            x.image();
            x.image();
            Checks.walk(x, 20);
            for (int i : new int[] {-1, 2, 3, LOW, HIGH}) c.is("back(" + i + ")", x.back(i), false);
            c.is("count(1)", x.count(1), 1);
            c.is("wears(0, 2)", x.wears(0, 2), 20);
            x.image();
            c.is("back(3) of three", x.back(3), false);
            c.is("count(1)", x.count(1), 1);
            c.is("back(1)", x.back(1), true);
            c.is("count(1)", x.count(1), 0);
            c.is("back(2) of a later one", x.back(2), true);
            c.is("count(1)", x.count(1), 1);
        });
        edge.of("35 none such: nothing done", c -> {
            HemLine x = EdgePeopleTests.town();
            for (int i : new int[] {-1, 1, 2, 3, LOW, HIGH}) c.is("back(" + i + ")", x.back(i), false);
            c.untouched("back", x, EdgePeopleTests.town());
        });
        edge.of("35 as often as told", c -> {
            HemLine x = Checks.follower(10);
            x.image();
            for (int i = 0; i < 5; i++) {
                Checks.walk(x, 20 + i, 30 + i);
                c.is("line(1)", x.line(1), 2000 + 100 * i);
                c.is("back(0)", x.back(0), true);
                c.is("line(0)", x.line(0), 1000);
                c.is("line(1)", x.line(1), -1);
            }
        });
        edge.of("35 an IMAGE isn't touched by what comes behind it", c -> {
            HemLine x = EdgePeopleTests.town();
            HemLine twin = EdgePeopleTests.town();
            x.image();
            x.run(9);
            x.shows(1, 50);
            x.money(2);
            x.set(0, 0, 0);
            x.seed(3);
            x.sees(0, 1, true);
            x.sees(1, 0, false);
            x.foretell(2);
            x.back(0);
            x.run(2);
            x.foretell(1);
            c.is("back(1)", x.back(1), true);
            twin.image();
            c.untouched("back(1)", x, twin);
        });
    }

    private static void kept(Edge edge) {
        edge.of("35 all: PEOPLE and whom they SEE", c -> {
            HemLine x = Checks.dancers(10, 20);
            x.sees(0, 1, true);
            x.image();
            x.person(5, 5, 5);
            x.sees(0, 1, false);
            x.sees(1, 0, true);
            x.back(0);
            c.is("count(0)", x.count(0), 2);
            c.is("wears(0, 5)", x.wears(0, 5), 2);
            c.is("wears(1, 5)", x.wears(1, 5), 0);
            c.is("wears(2, 0)", x.wears(2, 0), -1);
            c.is("line(0)", x.line(0), 1500);
        });
        edge.of("35 all: more PEOPLE in the IMAGE than now", c -> {
            HemLine x = new HemLine();
            x.image();
            for (int p = 0; p < 16; p++) x.person(p % 10, 90 + p % 5, 3 * p);
            x.sees(15, 3, true);
            x.image();
            x.back(0);
            x.person(1, 1, 1);
            x.back(1);
            c.is("count(0)", x.count(0), 16);
            for (int p = 0; p < 16; p++) {
                int[] due = {p % 10, 90 + p % 5, 3 * p, 0, 0, p == 15 ? 8 : 0};
                for (int what = 0; what < 6; what++) c.is("wears(" + p + ", " + what + ")", x.wears(p, what), due[what]);
            }
        });
        edge.of("35 all: COIN, WORN and how it went", c -> {
            HemLine x = EdgePeopleTests.town();
            x.image();
            int[] due = new int[48];
            for (int p = 0; p < 3; p++) for (int what = 0; what < 16; what++) due[16 * p + what] = x.wears(p, what);
            x.run(20);
            x.back(1);
            for (int p = 0; p < 3; p++) for (int what = 0; what < 16; what++) c.is("wears(" + p + ", " + what + ")", x.wears(p, what), due[16 * p + what]);
        });
        edge.of("35 all: HOUSES", c -> {
            HemLine x = Checks.follower(10);
            int[] due = {10, -1, 0, 60};
            for (int h = 0; h < 4; h++) x.shows(h, due[h]);
            x.image();
            for (int h = 0; h < 4; h++) x.shows(h, 33);
            x.run(1);
            x.back(0);
            for (int h = 0; h < 4; h++) c.is("count(" + (10 + h) + ")", x.count(10 + h), due[h]);
        });
        edge.of("35 all: MONEY", c -> {
            HemLine x = Checks.follower(10);
            x.money(44);
            x.image();
            x.money(55);
            x.run(1);
            x.money(66);
            x.back(0);
            c.is("count(9)", x.count(9), 44);
        });
        edge.of("35 all: PRICE", c -> c.is("COIN", pricesKept(20, 0, 0, 9), 80));
        edge.of("35 all: SEAM", c -> c.is("COIN", pricesKept(20, 5, 7, 5), 93));
        edge.of("35 all: OVER", c -> c.is("COIN", pricesKept(20, 9, 7, 9), 93));
        edge.of("35 all: z", c -> {
            HemLine x = EdgePeopleTests.drawer(EdgePeopleTests.chances(123, 20));
            x.seed(123);
            x.run(8);
            x.image();
            x.run(3);
            x.seed(9);
            x.back(0);
            x.run(12);
            c.is("SEASONS with the CHANCE that's due", x.wears(0, 2), 20);
        });
        edge.of("35 all: SEASON and what's RECORDED", c -> {
            HemLine x = Checks.follower(10);
            Checks.walk(x, 20, 30, 40);
            x.image();
            x.back(0);
            Checks.walk(x, 50);
            x.image();
            for (int i = 0; i < 2; i++) {
                x.back(i);
                c.is("count(1)", x.count(1), 3 + i);
                for (int s = 0; s < 3 + i; s++) c.is("line(" + s + ")", x.line(s), 1000 + 1000 * s);
                c.is("line beyond", x.line(4 + i), -1);
            }
        });
        edge.of("35 all: what's RECORDED of HOUSES, MONEY and what was asked", c -> {
            HemLine x = Checks.follower(10);
            x.image();
            x.shows(1, 60);
            x.money(5);
            Checks.walk(x, 11);
            x.money(6);
            Checks.walk(x, 12);
            x.image();
            x.back(0);
            x.shows(1, 0);
            x.money(50);
            Checks.walk(x, 3);
            x.money(40);
            Checks.walk(x, 9);
            x.back(1);
            c.is("followed(1, 0)", x.followed(1, 0), 2);
            c.is("luck(1, 1)", x.luck(1, 1), 4);
            c.is("claim(0, 0)", x.claim(0, 0), 1);
            c.is("claim(0, 1)", x.claim(0, 1), 1);
            c.is("read(0)", x.read(0), 0);
            Checks.tell(x, "to house 0 60 if coin=1 and worn=0;to house 1 60 if coin=2;");
            c.is("COIN as it was", x.read(1), 48);
        });
        edge.of("35 all: what CHANCE, COIN and WORN were", c -> {
            HemLine x = EdgePeopleTests.drawer(EdgePeopleTests.chances(123, 20));
            x.seed(123);
            x.image();
            x.run(8);
            x.image();
            c.is("read(0)", x.read(0), 0);
            x.back(0);
            x.seed(9);
            x.run(8);
            c.is("read(0) by other CHANCES", x.read(0), 0);
            c.is("wears(0, 2)", x.wears(0, 2) < 8, true);
            x.back(1);
            c.is("wears(0, 2)", x.wears(0, 2), 8);
            c.is("read(0)", x.read(0), 0);
        });
        edge.of("35 all: FORETOLD ones, too", c -> {
            HemLine x = Checks.follower(10);
            x.shows(0, 20);
            x.image();
            x.foretell(1);
            x.foretell(2);
            x.image();
            x.shows(0, 30);
            x.foretell(3);
            x.back(0);
            c.is("none yet", x.count(6), 0);
            c.is("held(0, 0)", x.held(0, 0), -2);
            x.shows(0, 50);
            for (int i = 0; i < 20; i++) c.is("twenty anew", x.foretell(9), i);
            x.back(1);
            c.is("two", x.count(6), 2);
            for (int k = 0; k < 2; k++) {
                c.is("held(" + k + ", 0)", x.held(k, 0), 2000);
                c.is("held(" + k + ", 1)", x.held(k, 1), k + 1);
            }
            c.is("held(2, 0)", x.held(2, 0), -2);
            x.run(2);
            c.is("held(1, 3)", x.held(1, 3), 1000);
        });
    }

    /** COIN behind one SEASON of so many inches, by prices that an IMAGE kept. */
    private static int pricesKept(int price, int seam, int over, int inches) {
        HemLine x = new HemLine();
        for (int p = 0; p < 2; p++) x.person(1, 50, 10);
        x.shows(0, 10);
        Checks.tell(x, "to house 0 60;");
        x.run(1);
        x.set(price, seam, over);
        x.image();
        x.set(1, 1, 1);
        x.back(0);
        x.shows(0, 10 + inches);
        x.run(1);
        return x.wears(0, 3);
    }

    private static void notKept(Edge edge) {
        edge.of("35 but LAWS, and which is in force", c -> {
            HemLine x = new HemLine();
            x.image();
            Checks.tell(x, "stay;");
            x.image();
            Checks.tell(x, "stay;stay;");
            for (int i = 0; i < 2; i++) {
                x.back(i);
                c.is("count(2)", x.count(2), 2);
                c.is("count(3)", x.count(3), 1);
                c.is("count(4)", x.count(4), 2);
            }
            x.force(0);
            x.back(1);
            c.is("count(3)", x.count(3), 0);
        });
        edge.of("35 but PLATES", c -> {
            HemLine x = Checks.follower(10);
            x.image();
            x.plate(1, 0, 12);
            x.back(0);
            c.is("count(5)", x.count(5), 1);
            c.is("off(1, 0)", x.off(1, 0), 200);
        });
        edge.of("35 but the tape", c -> {
            HemLine x = new HemLine();
            Checks.feed(x, "stay;stay;");
            x.image();
            x.law(5);
            x.back(0);
            c.is("it's empty still", x.count(8), 0);
            x.image();
            Checks.feed(x, "stay;stay;stay;");
            x.back(1);
            c.is("it holds", x.count(8), 20);
            c.is("law(15)", x.law(15), 1);
            c.is("count(4)", x.count(4), 3);
        });
        edge.of("35 and the FAULT is that of the latest law()", c -> {
            HemLine x = new HemLine();
            x.image();
            Checks.tell(x, "to");
            x.image();
            c.is("back(0)", x.back(0), true);
            c.is("fault()", x.fault(), 2);
            x.law(0);
            c.is("back(1)", x.back(1), true);
            c.is("fault()", x.fault(), -1);
        });
        edge.of("35 and the IMAGES are there still", c -> {
            HemLine x = Checks.follower(10);
            x.image();
            Checks.walk(x, 20);
            x.image();
            x.back(0);
            c.is("count(7)", x.count(7), 2);
            c.is("the third", x.image(), 2);
            c.is("back(1)", x.back(1), true);
            c.is("wears(0, 2)", x.wears(0, 2), 20);
        });
    }

    private static void count(Edge edge) {
        edge.of("36 NONE for others", c -> {
            HemLine x = EdgePeopleTests.town();
            for (int h = 0; h < 4; h++) x.shows(h, 20);
            for (int what : new int[] {-1, -2, 14, 15, 16, 100, LOW, HIGH}) c.is("count(" + what + ")", x.count(what), -1);
            for (int what = 0; what < 14; what++) c.is("count(" + what + ")", x.count(what) >= 0, true);
        });
        edge.of("36 each by itself", c -> {
            HemLine x = Checks.dancers(1, 2, 3, 4);
            for (int i = 0; i < 2; i++) Checks.tell(x, "stay;stay;stay;");
            for (int h = 0; h < 4; h++) x.shows(h, 40 + h);
            x.run(7);
            for (int i = 0; i < 8; i++) x.plate(0, 0, 0);
            for (int i = 0; i < 9; i++) x.foretell(1);
            x.image();
            Checks.feed(x, "x".repeat(60));
            x.money(77);
            int[] due = {4, 7, 3, 2, 3, 8, 9, 1, 60, 77, 40, 41, 42, 43};
            for (int what = 0; what < 14; what++) c.is("count(" + what + ")", x.count(what), due[what]);
        });
        edge.of("36 3 which is in force (NONE), 4 RULES of it (0)", c -> {
            HemLine x = new HemLine();
            c.is("count(3)", x.count(3), -1);
            c.is("count(4)", x.count(4), 0);
            Checks.tell(x, Checks.times("stay;", 16));
            c.is("count(3)", x.count(3), 0);
            c.is("count(4)", x.count(4), 16);
            x.law(0);
            c.is("count(3)", x.count(3), 1);
            c.is("no RULES", x.count(4), 0);
        });
        edge.of("36 10 + h: none, 0 and 60", c -> {
            HemLine x = new HemLine();
            for (int h = 0; h < 4; h++) {
                c.is("none", x.count(10 + h), -1);
                x.shows(h, 0);
                c.is("0", x.count(10 + h), 0);
                x.shows(h, 60);
                c.is("60", x.count(10 + h), 60);
            }
        });
    }

    /** All that there may be of everything. */
    private static HemLine fullest() {
        HemLine x = new HemLine();
        for (int p = 0; p < 16; p++) x.person(p % 10, 99, 60 - p);
        for (int p = 0; p < 16; p++) x.sees(p, (p + 1) % 16, true);
        String rule = "to all 9if chance<9;";
        for (int i = 0; i < 5; i++) Checks.tell(x, Checks.times(rule, 16));
        for (int i = 0; i < 60; i++) x.plate(i % 4, 200 - i, i);
        for (int h = 0; h < 4; h++) x.shows(h, 60);
        x.money(99);
        x.set(999, 9, 99);
        x.seed(999_999_999);
        for (int i = 0; i < 4; i++) x.run(50);
        for (int i = 0; i < 20; i++) x.foretell(50);
        for (int i = 0; i < 3; i++) x.image();
        for (int i = 0; i < 35; i++) x.feed(i, i, i, i, i);
        return x;
    }

    /** Every question, by a number that is mostly such a one. */
    private static void ask(HemLine x, int i, int what) {
        switch (what) {
            case -1: x.line(i); x.length(i, i); x.wears(i, 6); x.best(); x.read(i); x.count(i); break;
            case 0: x.round(50 + i, i % 2); x.pushed(60, 3, 20 * i, 0); x.shop(i, 0); x.shop(i, 10); x.fault(); break;
            case 1: x.led(i, 0); x.alone(5, 5, i); x.like(i, 1); x.street(i, 1); x.followed(i, 1); x.luck(i, 0); break;
            case 2: x.claim(i, 2); x.off(i, 0); x.again(20 + i, 2); x.held(i, 2); x.behind(i, 0); x.wears(0, 10 + i); break;
            default: x.count(10 + i); x.length(i, 30); x.street(-1, 0); x.held(0, i); x.round(100, 1); break;
        }
    }

    private static void full(Edge edge) {
        edge.of("a full object: what it holds", c -> {
            HemLine x = fullest();
            int[] due = {16, 200, 5, 4, 16, 60, 20, 3, 700, 99, 60, 60, 60, 60, -1};
            for (int what = 0; what < due.length; what++) c.is("count(" + what + ")", x.count(what), due[what]);
        });
        edge.of("a full object takes no more, and a refused call does nothing", c -> {
            HemLine x = fullest();
            c.is("person", x.person(1, 1, 1), -1);
            c.is("feed", x.feed(1, 1, 1, 1, 1), -1);
            c.is("law(701)", x.law(701), -2);
            c.is("law(700)", x.law(700), -3);
            c.is("law(0)", x.law(0), -3);
            c.is("run(1)", x.run(1), -1);
            c.is("plate", x.plate(1, 1, 1), -1);
            c.is("foretell", x.foretell(1), -1);
            c.is("image()", x.image(), -1);
            c.is("force(5)", x.force(5), false);
            c.is("back(3)", x.back(3), false);
            c.untouched("refused", x, fullest());
        });
        edge.of("a full object answers", c -> {
            HemLine x = fullest();
            c.is("line(200)", x.line(200) >= 0, true);
            c.is("line(201)", x.line(201), -1);
            c.is("length(15, 200)", x.length(15, 200) >= 0, true);
            c.is("length(16, 200)", x.length(16, 200), -1);
            c.is("wears(15, 5)", x.wears(15, 5), 1);
            c.is("wears(15, 3) <= 9999", x.wears(15, 3) <= 9999, true);
            c.is("luck(3, 1)", x.luck(3, 1), 1L << 24);
            c.is("claim(9, 1)", x.claim(9, 1), 0);
            c.is("held(19, 1)", x.held(19, 1), 250);
            c.is("held(19, 2)", x.held(19, 2), -1);
            c.is("held(20, 1)", x.held(20, 1), -2);
            c.is("off(3, 1)", x.off(3, 1), 15);
            c.is("street(NONE, 0)", x.street(-1, 0), 1);
            c.is("behind(99, 1)", x.behind(99, 1), 16);
            c.is("read(4)", x.read(4), x.read(0));
            c.is("read(NONE)", x.read(-1), 0);
            c.is("round(100, 1) or none", x.round(100, 1) >= -1, true);
            c.is("shop(6, 15)", x.shop(6, 15) > x.shop(6, 10), true);
        });
        edge.of("no question changes anything", c -> {
            HemLine x = EdgePeopleTests.town();
            HemLine twin = EdgePeopleTests.town();
            for (HemLine y : new HemLine[] {x, twin}) for (int i = 0; i < 3; i++) y.run(9);
            for (int i = -1; i < 5; i++) {
                for (int what = -1; what < 4; what++) ask(x, i, what);
            }
            c.untouched("questions", x, twin);
        });
        edge.of("a full object still changes what may be changed", c -> {
            HemLine x = fullest();
            c.is("sees", x.sees(0, 1, false) && x.wears(0, 5) == 0, true);
            c.is("shows", x.shows(3, -1) && x.count(13) == -1, true);
            c.is("money", x.money(0) && x.count(9) == 0, true);
            c.is("set", x.set(0, 0, 0), true);
            c.is("seed", x.seed(0), true);
            c.is("force", x.force(2) && x.count(3) == 2, true);
            c.is("back", x.back(2) && x.count(9) == 99, true);
            c.is("wears(0, 5)", x.wears(0, 5), 2);
            c.is("count(3)", x.count(3), 2);
        });
    }
}
