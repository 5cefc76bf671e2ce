/** Any calls with any numbers: no call may throw, and the answers stay within what the document allows. */
public final class WildTests {
    private static final int[] EDGES = {Integer.MIN_VALUE, Integer.MIN_VALUE + 1, -2, -1, 0, 1, 9, 10, 16, 60, 61, 99, 100, 200, 201,
        700, 999, 1000, 999_999_999, 1_000_000_000, Integer.MAX_VALUE - 1, Integer.MAX_VALUE};
    private static final String[] TEXTS = {"to above 60;", "from all 60;", "to old 99 60;", "to house 3 60 if chance<50;", "from house 0 7;",
        "stay if not(not(season>3 or all=0)and coin<9999);", "(", "not", "if", ";", " ", "\u00ff"};

    private long state;

    private WildTests(long run) {
        state = run;
    }

    public static void main(String[] args) {
        for (int run = 0; run < 600; run++) {
            try {
                new WildTests(run).play();
            } catch (RuntimeException | Error e) {
                System.out.println("FAIL any calls: run " + run + ": " + e);
                e.printStackTrace(System.out);
                System.exit(1);
            }
        }
        System.out.println("PASS any calls");
    }

    private int draw(int n) {
        state = state * 6364136223846793005L + 1442695040888963407L;
        return (int) ((state >>> 33) % n);
    }

    private int any() {
        switch (draw(8)) {
            case 0: return EDGES[draw(EDGES.length)];
            case 1: return draw(Integer.MAX_VALUE) * (draw(2) * 2 - 1);
            case 2: return draw(100);
            default: return draw(12) - 1;
        }
    }

    private void play() {
        HemLine x = new HemLine();
        int people = draw(17);
        for (int i = 0; i < people; i++) x.person(draw(10), draw(100), draw(61));
        if (draw(3) != 0) Checks.tell(x, TEXTS[draw(6)] + TEXTS[draw(6)]);
        // with the texts of LAWS, which take several calls each, that stays below 512
        for (int call = 0; call < 350; call++) {
            int op = draw(40);
            if (op < 4) x.run(draw(8));
            else if (op < 14) change(x, op);
            else ask(x, op);
        }
    }

    private void change(HemLine x, int op) {
        switch (op) {
            case 4: x.person(any(), any(), any()); break;
            case 5: x.sees(any(), any(), draw(3) > 0); break;
            case 6: x.shows(any(), any()); break;
            case 7: x.money(any()); break;
            case 8: x.set(any(), any(), any()); break;
            case 9: x.seed(any()); break;
            case 10: x.feed(any(), any(), any(), any(), any()); x.law(any()); break;
            case 11:
                Checks.tell(x, TEXTS[draw(TEXTS.length)] + TEXTS[draw(TEXTS.length)] + TEXTS[draw(TEXTS.length)]);
                must(x.fault() >= -1 && x.fault() <= 700);
                break;
            case 12: x.force(any()); break;
            default: if (draw(3) == 0) x.image(); else if (draw(3) == 0) x.back(draw(4)); else x.run(any()); break;
        }
    }

    private void ask(HemLine x, int op) {
        switch (op) {
            case 14: must(x.line(any()) <= 6000); break;
            case 15: must(x.length(any(), any()) <= 60); break;
            case 16: must(x.wears(any(), any()) >= -1); break;
            case 17: must(x.round(any(), any()) <= 100); break;
            case 18: must(x.pushed(any(), any(), any(), any()) <= 100); break;
            case 19: must(x.led(any(), any()) <= 200); break;
            case 20: must(x.alone(any(), any(), any()) >= -1); break;
            case 21: must(Math.abs(x.like(any(), any())) <= 12000); break;
            case 22: must(x.street(any(), any()) <= 6000); break;
            case 23: must(x.followed(any(), any()) <= 200); break;
            case 24: must(x.luck(any(), any()) <= 1 << 24); break;
            case 25: must(x.claim(any(), any()) <= 1L << 40); break;
            case 26: must(x.best() <= 9); break;
            case 27: must(x.plate(any(), any(), any()) <= 60); break;
            case 28: must(x.off(any(), any()) >= -1); break;
            case 29: must(x.again(any(), any()) <= 201); break;
            case 30: must(x.foretell(any()) <= 19); break;
            case 31: must(x.held(any(), any()) <= 6000); break;
            case 32: must(x.behind(any(), any()) >= -1); break;
            case 33: must(x.shop(any(), any()) <= 16 * 60); break;
            case 34: must(x.read(any()) <= 20 * 16 * 60); break;
            case 35: must(x.count(any()) <= 700); break;
            default: must(x.wears(draw(16), 6) <= 60); break;
        }
    }

    private static void must(boolean well) {
        if (!well) throw new IllegalStateException("an answer beyond the document's bounds");
    }
}
