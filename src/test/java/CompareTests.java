import java.util.ArrayList;
import java.util.List;

/** Runs of calls with told numbers, the same each time, on HemLine and on PlainHem: each answer must be the same. */
public final class CompareTests {
    private static final int RUNS = 100;
    private static final int CALLS = 512;
    /** The most calls that a LAW's text takes. */
    private static final int LONGEST_TEXT = 40;

    private long state;
    private int calls;
    private final HemLine hem = new HemLine();
    private final PlainHem plain = new PlainHem();
    private final List<String> told = new ArrayList<>();
    private static final long[] KINDS = new long[200];

    private CompareTests(int run) {
        state = run * 7919L + 13;
    }

    public static void main(String[] args) {
        boolean well = true;
        for (int run = 0; run < RUNS && well; run++) {
            String wrong = new CompareTests(run).play(run);
            if (wrong != null) {
                System.out.println("FAIL compared runs: run " + run + ": " + wrong);
                well = false;
            }
        }
        if (args.length > 0) for (int i = 0; i < 36; i++) System.out.println(i + ": answers " + KINDS[2 * i] + ", NONE " + KINDS[2 * i + 1]);
        if (!well) System.exit(1);
        System.out.println("PASS compared runs");
    }

    private int draw(int n) {
        state = state * 2862933555777941757L + 3037000493L;
        return (int) ((state >>> 33) % n);
    }

    /** Mostly within a to b; at times just outside or far away. */
    private int near(int a, int b) {
        int d = draw(40);
        if (d == 0) return a - 1;
        if (d == 1) return b + 1;
        if (d == 2) return draw(2) == 0 ? Integer.MIN_VALUE : Integer.MAX_VALUE;
        if (d == 3) return a;
        if (d == 4) return b;
        return a + draw(b - a + 1);
    }

    private String play(int run) {
        int people = draw(8) == 0 ? 16 : draw(10);
        for (int i = 0; i < people; i++) {
            String w = call(1);
            if (w != null) return w;
        }
        for (int i = 0; i < people * 3; i++) {
            String w = call(2);
            if (w != null) return w;
        }
        boolean rich = draw(2) == 0;
        while (calls <= CALLS - LONGEST_TEXT) {
            int op = 1 + draw(36);
            if (rich && draw(3) == 0) op = new int[] {4, 5, 12, 4, 5, 12, 8, 9}[draw(8)];
            if (op == 35 && draw(3) != 0) op = 12;
            String w = op == 8 || op == 9 && draw(3) > 0 ? tellLaw() : call(op);
            if (w != null) return w;
        }
        return null;
    }

    private String same(int op, String call, long got, long due) {
        calls++;
        KINDS[2 * op + (due == -1 ? 1 : 0)]++;
        told.add(call);
        return got == due ? null : call + " answered " + got + ", due is " + due + " behind " + told;
    }

    private static long bit(boolean b) {
        return b ? 1 : 0;
    }

    private int who() {
        return near(0, Math.max(0, plain.now.people.size() - 1));
    }

    private String call(int op) {
        int a, b, c, d;
        switch (op) {
            case 1: a = near(0, 9); b = near(0, 99); c = near(0, 60);
                if (draw(2) == 0) { a = draw(4); b = draw(10); }
                return same(op, "person " + a + " " + b + " " + c, hem.person(a, b, c), plain.person(a, b, c));
            case 2: a = who(); b = who(); boolean is = draw(5) != 0;
                return same(op, "sees " + a + " " + b + " " + is, bit(hem.sees(a, b, is)), bit(plain.sees(a, b, is)));
            case 3: a = draw(30); return same(3, "count " + a, hem.count(a), plain.count(a));
            case 4: a = near(0, 3); b = near(-1, 60);
                return same(op, "shows " + a + " " + b, bit(hem.shows(a, b)), bit(plain.shows(a, b)));
            case 5: a = near(0, 99); return same(op, "money " + a, bit(hem.money(a)), bit(plain.money(a)));
            case 6: a = near(0, draw(3) == 0 ? 999 : 40); b = near(0, 9); c = near(0, draw(3) == 0 ? 99 : 5);
                return same(op, "set " + a + " " + b + " " + c, bit(hem.set(a, b, c)), bit(plain.set(a, b, c)));
            case 7: a = near(0, 999_999_999); return same(op, "seed " + a, bit(hem.seed(a)), bit(plain.seed(a)));
            case 9: a = draw(3) == 0 ? near(0, plain.tape.size()) : draw(30) - 2;
                String w = same(op, "law " + a, hem.law(a), plain.law(a));
                return w != null ? w : same(11, "fault", hem.fault(), plain.fault());
            case 10: a = near(0, Math.max(0, plain.laws.size() - 1));
                return same(op, "force " + a, bit(hem.force(a)), bit(plain.force(a)));
            case 12: a = draw(12) == 0 ? near(1, 60) : draw(4);
                return same(op, "run " + a, hem.run(a), plain.run(a));
            default: return ask(op);
        }
    }

    private String ask(int op) {
        int a, b, c, d;
        switch (op) {
            case 13: a = near(0, plain.now.season); return same(op, "line " + a, hem.line(a), plain.line(a));
            case 14: a = who(); b = near(0, plain.now.season);
                return same(op, "length " + a + " " + b, hem.length(a, b), plain.length(a, b));
            case 15: a = who(); b = near(0, 15);
                return same(op, "wears " + a + " " + b, hem.wears(a, b), plain.wears(a, b));
            case 16: a = near(1, 100); b = near(0, 1);
                return same(op, "round " + a + " " + b, hem.round(a, b), plain.round(a, b));
            case 17: a = near(1, 100); b = near(1, draw(2) == 0 ? 3 : 20); c = near(0, 99); d = near(0, 1);
                return same(op, "pushed " + a + " " + b + " " + c + " " + d, hem.pushed(a, b, c, d), plain.pushed(a, b, c, d));
            case 18: a = who(); b = near(0, 3); return same(op, "led " + a + " " + b, hem.led(a, b), plain.led(a, b));
            case 19: a = near(1, draw(3) == 0 ? 60 : 6); b = near(1, 20); c = near(0, 2);
                return same(op, "alone " + a + " " + b + " " + c, hem.alone(a, b, c), plain.alone(a, b, c));
            case 20: a = near(1, 10); b = near(0, 1); return same(op, "like " + a + " " + b, hem.like(a, b), plain.like(a, b));
            case 21: a = near(-1, Math.max(0, plain.now.people.size() - 1)); b = near(0, 1);
                return same(op, "street " + a + " " + b, hem.street(a, b), plain.street(a, b));
            case 22: a = near(0, 3); b = near(0, 1);
                return same(op, "followed " + a + " " + b, hem.followed(a, b), plain.followed(a, b));
            case 23: a = near(0, 3); b = near(0, 1);
                return plain.isHeavy(a) ? null : same(op, "luck " + a + " " + b, hem.luck(a, b), plain.luck(a, b));
            case 24: a = near(0, 9); b = near(0, 2); return same(op, "claim " + a + " " + b, hem.claim(a, b), plain.claim(a, b));
            case 25: return same(op, "best", hem.best(), plain.best());
            case 26: a = near(0, 3); b = near(0, draw(3) == 0 ? 200 : 20); c = near(0, 60);
                return same(op, "plate " + a + " " + b + " " + c, hem.plate(a, b, c), plain.plate(a, b, c));
            case 27: a = near(0, 3); b = near(0, 2); return same(op, "off " + a + " " + b, hem.off(a, b), plain.off(a, b));
            case 28: a = near(0, 60); b = near(0, 2);
                if (draw(2) == 0) a = plain.now.people.isEmpty() ? 0 : plain.line(plain.now.season) / 100;
                return same(op, "again " + a + " " + b, hem.again(a, b), plain.again(a, b));
            case 29: a = near(1, draw(2) == 0 ? 50 : 5); return same(op, "foretell " + a, hem.foretell(a), plain.foretell(a));
            case 30: a = near(0, Math.max(0, plain.now.foretold.size() - 1)); b = near(0, 3);
                return same(op, "held " + a + " " + b, hem.held(a, b), plain.held(a, b));
            case 31: a = near(0, draw(2) == 0 ? 9 : 99); b = near(0, 3);
                return same(op, "behind " + a + " " + b, hem.behind(a, b), plain.behind(a, b));
            case 32: a = near(1, 6); b = draw(3) == 0 ? near(0, 0) : near(10, Math.max(10, Math.min(15, 9 + a)));
                return same(op, "shop " + a + " " + b, hem.shop(a, b), plain.shop(a, b));
            case 33: a = near(-1, plain.laws.size() - 1); return same(op, "read " + a, hem.read(a), plain.read(a));
            case 34: return draw(4) != 0 ? null : same(op, "image", hem.image(), plain.image());
            case 35: a = near(0, Math.max(0, plain.images.size() - 1)); return same(op, "back " + a, bit(hem.back(a)), bit(plain.back(a)));
            case 36: a = near(0, 13); return same(0, "count " + a, hem.count(a), plain.count(a));
            default: return same(11, "fault", hem.fault(), plain.fault());
        }
    }

    // ---- texts of laws, mostly right, some broken

    private String tellLaw() {
        StringBuilder text = new StringBuilder();
        int rules = draw(12) == 0 ? 15 + draw(3) : draw(5);
        for (int i = 0; i < rules; i++) text.append(rule(rules > 5 ? 0 : 2));
        if (draw(2) == 0) text.append(" ");
        if (draw(4) == 0) spoil(text);
        while (text.length() > 700) text.setLength(700);
        int n = text.length();
        while (text.length() % 20 != 0) text.append((char) (draw(2) == 0 ? ' ' : 'a' + draw(26)));
        for (int i = 0; i < text.length(); i += 20) {
            int[] v = new int[5];
            for (int j = 0; j < 20; j++) v[j / 4] = v[j / 4] << 8 | text.charAt(i + j) & 255;
            String w = same(8, "feed " + text.substring(i, i + 20), hem.feed(v[0], v[1], v[2], v[3], v[4]), plain.feed(v));
            if (w != null) return w;
        }
        String w = same(9, "law " + n, hem.law(n), plain.law(n));
        return w != null ? w : same(11, "fault", hem.fault(), plain.fault());
    }

    private void spoil(StringBuilder text) {
        String[] bits = {";", "(", ")", "not ", " and ", "x", "!", " 61 ", " 00001", "\t", "\u00e9", " 100 ", "10000", "if ", "=", "\n", "to "};
        for (int i = 0; i <= draw(3); i++) {
            int at = draw(text.length() + 1);
            if (draw(3) == 0 && at < text.length()) text.deleteCharAt(at);
            else if (draw(5) == 0) text.setLength(at);
            else text.insert(at, bits[draw(bits.length)]);
        }
    }

    private String blank() {
        return draw(5) == 0 ? "\n " : " ";
    }

    private String rule(int deep) {
        StringBuilder r = new StringBuilder();
        String[] whoms = {"above", "below", "alike", "all", "house", "old"};
        if (draw(6) == 0) {
            r.append("stay");
        } else {
            r.append(draw(3) == 0 ? "from" : "to").append(blank());
            String whom = whoms[draw(6)];
            r.append(whom).append(blank());
            if (whom.equals("house")) r.append(draw(4)).append(blank());
            if (whom.equals("old")) r.append(1 + draw(draw(3) == 0 ? 99 : 6)).append(blank());
            r.append(draw(4) == 0 ? draw(61) : draw(8));
        }
        if (deep > 0 && draw(3) != 0) r.append(" if ").append(any(deep + draw(3)));
        return r.append(draw(3) == 0 ? " ;" : ";").toString();
    }

    private String any(int deep) {
        StringBuilder t = new StringBuilder(one(deep));
        while (draw(3) == 0 && t.length() < 60) t.append(draw(2) == 0 ? " and " : " or ").append(one(deep - 1));
        return t.toString();
    }

    private String one(int deep) {
        if (deep > 0 && draw(3) == 0) return "not " + one(deep - 1 + (draw(9) == 0 ? 3 : 0));
        if (deep > 0 && draw(3) == 0) return "(" + any(deep - 1) + ")";
        String word = PlainHem.WORDS.get(draw(12));
        int number = switch (word) {
            case "season" -> draw(60);
            case "coin" -> draw(draw(3) == 0 ? 9999 : 100);
            case "rank", "worn" -> draw(8);
            case "money", "chance", "purse" -> draw(100);
            default -> draw(61);
        };
        return word + (draw(2) == 0 ? " " : "") + "<>=".charAt(draw(3)) + (draw(2) == 0 ? " " : "") + number;
    }
}
