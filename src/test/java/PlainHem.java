import java.math.BigInteger;
import java.util.ArrayDeque;
import java.util.ArrayList;
import java.util.Arrays;
import java.util.Deque;
import java.util.List;
import java.util.TreeSet;

/** The document again, by other ways than HemLine's (brute force, big numbers, whole copies), for comparing. */
final class PlainHem {
    static final class Person implements Cloneable {
        int rank, purse, coin, worn;
        TreeSet<Integer> sees = new TreeSet<>();
        int[] tally = new int[16];
        List<Integer> lengths = new ArrayList<>();
        List<int[]> asked = new ArrayList<>();

        Person copy() {
            Person c = new Person();
            c.rank = rank; c.purse = purse; c.coin = coin; c.worn = worn;
            c.sees = new TreeSet<>(sees);
            c.tally = tally.clone();
            c.lengths = new ArrayList<>(lengths);
            c.asked = new ArrayList<>(asked);
            return c;
        }
    }

    static final class State {
        List<Person> people = new ArrayList<>();
        int[] houses = {-1, -1, -1, -1};
        int money, price, seam, over, season;
        long z = 1;
        List<int[]> shown = new ArrayList<>();
        List<Integer> moneys = new ArrayList<>();
        List<int[]> foretold = new ArrayList<>();

        State copy() {
            State c = new State();
            for (Person p : people) c.people.add(p.copy());
            c.houses = houses.clone();
            c.money = money; c.price = price; c.seam = seam; c.over = over; c.season = season; c.z = z;
            c.shown = new ArrayList<>(shown);
            c.moneys = new ArrayList<>(moneys);
            c.foretold = new ArrayList<>(foretold);
            return c;
        }

        int moneyAt(int s) { return s == season ? money : moneys.get(s); }
        int[] shownAt(int s) { return s == season ? houses : shown.get(s); }

        int line(int s) {
            int sum = 0;
            for (Person p : people) sum += p.lengths.get(s);
            return (int) Math.floor(sum * 100.0 / people.size());
        }

        List<Integer> lengthsAt(int s) {
            List<Integer> all = new ArrayList<>();
            for (Person p : people) all.add(p.lengths.get(s));
            return all;
        }
    }

    record Token(String text, int place) { }

    /** kind, whom, number, by; the ANY as tokens. */
    record Rule(String kind, String whom, int number, int by, List<Token> any) { }

    State now = new State();
    List<State> images = new ArrayList<>();
    List<List<Rule>> laws = new ArrayList<>();
    int inForce = -1;
    int fault = -1;
    List<Integer> tape = new ArrayList<>();
    List<int[]> plates = new ArrayList<>();

    // ---- laws

    static List<Token> tokens(String text) {
        List<Token> all = new ArrayList<>();
        java.util.regex.Matcher m = java.util.regex.Pattern.compile("[a-z]+|[0-9]+|[^ \\n]", java.util.regex.Pattern.DOTALL)
            .matcher(text);
        while (m.find()) all.add(new Token(m.group(), m.start()));
        all.add(new Token("", text.length()));
        return all;
    }

    static boolean number(String t, int least, int most) {
        return t.matches("[0-9]{1,4}") && Integer.parseInt(t) >= least && Integer.parseInt(t) <= most;
    }

    static final List<String> WORDS = List.of("season", "length", "purse", "coin", "rank", "money", "chance", "worn",
        "above", "below", "alike", "all");

    /** An automaton with a stack of what's open. Answers the place of the FAULT or -1, and fills the rules. */
    static int parse(String text, List<Rule> rules) {
        String state = "rule";
        Deque<String> open = new ArrayDeque<>();
        String kind = "", whom = "";
        int number = 0, by = 0;
        List<Token> any = null;
        for (Token t : tokens(text)) {
            String s = t.text();
            if (any != null && !s.equals(";")) any.add(t);
            switch (state) {
                case "rule" -> {
                    if (s.isEmpty()) return -1;
                    if (rules.size() == 16) return t.place();
                    kind = s; whom = ""; number = 0; by = 0; any = null;
                    if (s.equals("stay")) state = "tail";
                    else if (s.equals("to") || s.equals("from")) state = "whom";
                    else return t.place();
                }
                case "whom" -> {
                    whom = s;
                    if (List.of("above", "below", "alike", "all").contains(s)) state = "by";
                    else if (s.equals("house") || s.equals("old")) state = s;
                    else return t.place();
                }
                case "house" -> {
                    if (!number(s, 0, 3)) return t.place();
                    number = Integer.parseInt(s); state = "by";
                }
                case "old" -> {
                    if (!number(s, 1, 99)) return t.place();
                    number = Integer.parseInt(s); state = "by";
                }
                case "by" -> {
                    if (!number(s, 0, 60)) return t.place();
                    by = Integer.parseInt(s); state = "tail";
                }
                case "tail" -> {
                    if (s.equals("if")) { any = new ArrayList<>(); state = "one"; }
                    else if (s.equals(";")) { rules.add(new Rule(kind, whom, number, by, null)); state = "rule"; }
                    else return t.place();
                }
                case "one" -> {
                    if (s.equals("not") || s.equals("(")) {
                        if (open.size() == 8) return t.place();
                        open.push(s);
                    } else if (WORDS.contains(s)) state = "sign";
                    else return t.place();
                }
                case "sign" -> {
                    if (!List.of("<", ">", "=").contains(s)) return t.place();
                    state = "number";
                }
                case "number" -> {
                    if (!number(s, 0, 9999)) return t.place();
                    while (!open.isEmpty() && open.peek().equals("not")) open.pop();
                    state = "behind";
                }
                default -> {
                    if (s.equals("and") || s.equals("or")) state = "one";
                    else if (s.equals(")") && !open.isEmpty()) {
                        open.pop();
                        while (!open.isEmpty() && open.peek().equals("not")) open.pop();
                    } else if (s.equals(";") && open.isEmpty()) {
                        rules.add(new Rule(kind, whom, number, by, any));
                        any = null;
                        state = "rule";
                    } else return t.place();
                }
            }
        }
        throw new IllegalStateException("the end is always answered");
    }

    /** The ANY evaluated on its tokens, splitting at the "or" and "and" that stand in no brackets. */
    static boolean any(List<Token> t, java.util.Map<String, Integer> asked) {
        int or = split(t, "or");
        if (or >= 0) return any(t.subList(0, or), asked) | any(t.subList(or + 1, t.size()), asked);
        int and = split(t, "and");
        if (and >= 0) return any(t.subList(0, and), asked) & any(t.subList(and + 1, t.size()), asked);
        String first = t.get(0).text();
        if (first.equals("not")) return !any(t.subList(1, t.size()), asked);
        if (first.equals("(")) return any(t.subList(1, t.size() - 1), asked);
        int v = asked.get(first), n = Integer.parseInt(t.get(2).text());
        return switch (t.get(1).text()) { case "<" -> v < n; case ">" -> v > n; default -> v == n; };
    }

    static int split(List<Token> t, String word) {
        int deep = 0, last = -1;
        for (int i = 0; i < t.size(); i++) {
            String s = t.get(i).text();
            if (s.equals("(")) deep++;
            if (s.equals(")")) deep--;
            if (deep == 0 && s.equals(word)) last = i;
        }
        return last;
    }

    /** -1: none. */
    static int mean(State w, int p, String whom, int number, int from) {
        List<Integer> lengths = new ArrayList<>();
        Person me = w.people.get(p);
        switch (whom) {
            case "house" -> { return w.shownAt(from)[number]; }
            case "old" -> { if (from - number >= 0) lengths = w.lengthsAt(from - number); }
            default -> {
                for (int o : me.sees) {
                    Person other = w.people.get(o);
                    boolean in = switch (whom) {
                        case "above" -> other.rank > me.rank;
                        case "below" -> other.rank < me.rank;
                        case "alike" -> other.rank == me.rank;
                        default -> true;
                    };
                    if (in) lengths.add(other.lengths.get(from));
                }
            }
        }
        if (lengths.isEmpty()) return -1;
        return lengths.stream().mapToInt(x -> x).sum() / lengths.size();
    }

    /** What it WANTS for the SEASON behind from, and by which kind of RULE (0 to, 1 from, 2 stay). */
    static int[] wants(State w, List<Rule> law, int p, int from, int coin, int worn, int chance) {
        Person me = w.people.get(p);
        int own = me.lengths.get(from);
        java.util.Map<String, Integer> asked = new java.util.HashMap<>();
        asked.put("season", from + 1);
        asked.put("length", own);
        asked.put("purse", me.purse);
        asked.put("coin", coin);
        asked.put("rank", me.rank);
        asked.put("money", w.moneyAt(from));
        asked.put("chance", chance);
        asked.put("worn", worn);
        for (String s : List.of("above", "below", "alike", "all")) asked.put(s, Math.max(0, mean(w, p, s, 0, from)));
        for (Rule r : law) {
            if (r.any() != null && !any(r.any(), asked)) continue;
            if (r.kind().equals("stay")) return new int[] {own, 2};
            int m = mean(w, p, r.whom(), r.number(), from);
            if (m < 0) continue;
            if (r.kind().equals("to")) {
                int goal = own;
                for (int i = 0; i < r.by() && goal != m; i++) goal += goal < m ? 1 : -1;
                return new int[] {goal, 0};
            }
            int goal = own;
            if (Math.abs(own - m) < r.by()) goal = own < m ? m - r.by() : m + r.by();
            return new int[] {Math.max(0, Math.min(60, goal)), 1};
        }
        return new int[] {own, 2};
    }

    static void season(State w, List<Rule> law) {
        w.shown.add(w.houses.clone());
        w.moneys.add(w.money);
        w.season++;
        int from = w.season - 1;
        List<Integer> next = new ArrayList<>();
        for (int i = 0; i < w.people.size(); i++) {
            Person p = w.people.get(i);
            w.z = BigInteger.valueOf(w.z).multiply(new BigInteger("6364136223846793005"))
                .add(new BigInteger("1442695040888963407")).longValue();
            int chance = (int) (Long.divideUnsigned(w.z, 1L << 33) % 100);
            p.coin = Math.min(9999, p.coin + p.purse);
            p.asked.add(new int[] {p.coin, p.worn, chance});
            int own = p.lengths.get(from);
            int[] want = wants(w, law, i, from, p.coin, p.worn, chance);
            next.add(own);
            p.worn++;
            if (want[0] == own) { p.tally[12]++; continue; }
            p.tally[10 + want[1]]++;
            boolean seam = Math.abs(want[0] - own) <= w.seam;
            int cost = seam ? w.over : w.price;
            if (cost > p.coin) { p.tally[13]++; continue; }
            p.coin -= cost;
            p.worn = 0;
            p.tally[seam ? 14 : 15]++;
            next.set(i, want[0]);
        }
        for (int i = 0; i < w.people.size(); i++) w.people.get(i).lengths.add(next.get(i));
    }

    // ---- the face

    static boolean in(int v, int a, int b) { return a <= v && v <= b; }
    boolean isPerson(int p) { return in(p, 0, now.people.size() - 1); }
    boolean idle() { return now.people.isEmpty() || inForce < 0; }
    List<Rule> law() { return laws.get(inForce); }

    int person(int rank, int purse, int length) {
        if (!in(rank, 0, 9) || !in(purse, 0, 99) || !in(length, 0, 60) || now.people.size() == 16 || now.season > 0) return -1;
        Person p = new Person();
        p.rank = rank; p.purse = purse; p.lengths.add(length);
        now.people.add(p);
        return now.people.size() - 1;
    }

    boolean sees(int one, int other, boolean is) {
        if (!isPerson(one) || !isPerson(other) || one == other) return false;
        if (is) now.people.get(one).sees.add(other); else now.people.get(one).sees.remove(other);
        return true;
    }

    boolean shows(int house, int length) {
        if (!in(house, 0, 3) || !in(length, -1, 60)) return false;
        now.houses = now.houses.clone();
        now.houses[house] = length;
        return true;
    }

    boolean money(int v) { if (!in(v, 0, 99)) return false; now.money = v; return true; }

    boolean set(int price, int seam, int over) {
        if (!in(price, 0, 999) || !in(seam, 0, 9) || !in(over, 0, 99)) return false;
        now.price = price; now.seam = seam; now.over = over;
        return true;
    }

    boolean seed(int z) { if (!in(z, 0, 999999999)) return false; now.z = z; return true; }

    int feed(int... numbers) {
        if (tape.size() + 20 > 700) return -1;
        for (int n : numbers) for (byte b : java.nio.ByteBuffer.allocate(4).putInt(n).array()) tape.add(b & 255);
        return tape.size();
    }

    int law(int n) {
        if (n < 0 || n > tape.size()) return -2;
        if (laws.size() == 5) return -3;
        StringBuilder text = new StringBuilder();
        for (int i = 0; i < n; i++) text.append((char) (int) tape.get(i));
        tape.clear();
        List<Rule> rules = new ArrayList<>();
        fault = parse(text.toString(), rules);
        if (fault >= 0) return -1;
        laws.add(rules);
        inForce = laws.size() - 1;
        return inForce;
    }

    boolean force(int law) { if (!in(law, 0, laws.size() - 1)) return false; inForce = law; return true; }
    int fault() { return fault; }

    int run(int n) {
        if (!in(n, 1, 60) || now.season + n > 200 || idle()) return -1;
        for (int i = 0; i < n; i++) season(now, law());
        return now.season;
    }

    int line(int s) { return in(s, 0, now.season) && !now.people.isEmpty() ? now.line(s) : -1; }
    int length(int p, int s) { return isPerson(p) && in(s, 0, now.season) ? now.people.get(p).lengths.get(s) : -1; }

    int wears(int p, int what) {
        if (!isPerson(p)) return -1;
        Person me = now.people.get(p);
        return switch (what) {
            case 0 -> me.rank;
            case 1 -> me.purse;
            case 2 -> me.lengths.get(now.season);
            case 3 -> me.coin;
            case 4 -> me.worn;
            case 5 -> me.sees.stream().mapToInt(o -> 1 << o).sum();
            case 6 -> inForce < 0 ? -1 : wants(now, law(), p, now.season, me.coin, me.worn, 0)[0];
            case 10, 11, 12, 13, 14, 15 -> me.tally[what];
            default -> -1;
        };
    }

    int round(int n, int what) {
        if (!in(n, 1, 100) || !in(what, 0, 1) || idle()) return -1;
        return trial(n, 1, 1, -1, what);
    }

    int pushed(int n, int every, int money, int what) {
        if (!in(n, 1, 100) || !in(what, 0, 1) || !in(every, 1, 20) || !in(money, 0, 99) || idle()) return -1;
        return trial(n, 2 * every, every, money, what);
    }

    private int trial(int n, int apart, int every, int money, int what) {
        State w = now.copy();
        for (int t = 1; t <= n; t++) {
            w.money = money >= 0 && (t - 1) / every % 2 == 0 ? money : now.money;
            season(w, law());
            for (int u = t - 1; u >= 0; u--) {
                if ((t - u) % apart == 0 && w.lengthsAt(now.season + u).equals(w.lengthsAt(now.season + t))) {
                    return what == 0 ? t : t - u;
                }
            }
        }
        return -1;
    }

    int led(int p, int what) {
        if (!isPerson(p) || !in(what, 0, 3)) return -1;
        int[] counts = new int[4];
        for (int s = 1; s <= now.season; s++) {
            int a = length(p, s - 1), b = length(p, s);
            if (a == b) continue;
            counts[3]++;
            int above = mean(now, p, "above", 0, s - 1), below = mean(now, p, "below", 0, s - 1), alike = mean(now, p, "alike", 0, s - 1);
            if (above >= 0 && Math.abs(b - above) < Math.abs(a - above)) counts[0]++;
            if (below >= 0 && Math.abs(b - below) > Math.abs(a - below)) counts[1]++;
            if (alike >= 0 && Math.abs(b - alike) < Math.abs(a - alike)) counts[2]++;
        }
        return counts[what];
    }

    private boolean isAlone(int p, int s, int gap) {
        for (int o = 0; o < now.people.size(); o++) if (o != p && Math.abs(length(o, s) - length(p, s)) < gap) return false;
        return true;
    }

    int alone(int gap, int n, int what) {
        if (!in(gap, 1, 60) || !in(n, 1, 20) || !in(what, 0, 2)) return -1;
        int[] counts = new int[3];
        for (int p = 0; p < now.people.size(); p++) {
            for (int s = 1; s <= now.season; s++) {
                if (!isAlone(p, s, gap) || isAlone(p, s - 1, gap)) continue;
                counts[0]++;
                int left = 99, taken = 99;
                for (int i = n; i >= 1; i--) {
                    if (s + i > now.season) continue;
                    if (length(p, s + i) != length(p, s)) left = i;
                    if (!isAlone(p, s + i, gap)) taken = i;
                }
                if (left < 99 && left <= taken) counts[2]++;
                else if (taken < 99) counts[1]++;
            }
        }
        return counts[what];
    }

    int like(int n, int what) {
        if (!in(n, 1, 10) || !in(what, 0, 1) || now.people.isEmpty()) return -1;
        int best = -1, least = Integer.MAX_VALUE;
        for (int s = now.season - 1; s >= n - 1; s--) {
            int off = 0;
            for (int i = 0; i < n; i++) off += Math.abs(line(s - i) - line(now.season - i));
            if (off < least) { least = off; best = s; }
        }
        if (best < 0) return -1;
        return what == 0 ? best : line(best + 1) + (line(now.season) - line(best));
    }

    private int[] streets() {
        int n = now.people.size();
        int[] street = new int[n];
        for (int i = 0; i < n; i++) street[i] = i;
        for (int turn = 0; turn < n; turn++) {
            for (int i = 0; i < n; i++) {
                for (int o : now.people.get(i).sees) street[i] = street[o] = Math.min(street[i], street[o]);
            }
        }
        return street;
    }

    int street(int p, int what) {
        int[] street = streets();
        if (p == -1) return what == 0 ? (int) Arrays.stream(street).distinct().count() : -1;
        if (!isPerson(p) || !in(what, 0, 1)) return -1;
        if (what == 0) return street[p];
        int sum = 0, n = 0;
        for (int i = 0; i < street.length; i++) if (street[i] == street[p]) { sum += length(i, now.season); n++; }
        return sum * 100 / n;
    }

    private boolean follows(int house, int s) {
        int x = 100 * now.shownAt(s)[house];
        return Math.abs(line(s + 1) - x) < Math.abs(line(s) - x);
    }

    private List<Integer> seasonsOf(int house) {
        List<Integer> all = new ArrayList<>();
        for (int s = 0; s < now.season; s++) if (now.shownAt(s)[house] >= 0) all.add(s);
        return all;
    }

    int followed(int house, int what) {
        if (!in(house, 0, 3) || !in(what, 0, 1)) return -1;
        List<Integer> all = seasonsOf(house);
        return what == 1 ? all.size() : (int) all.stream().filter(s -> follows(house, s)).count();
    }

    long luck(int house, int what) {
        if (!in(house, 0, 3) || !in(what, 0, 1)) return -1;
        List<Integer> all = seasonsOf(house);
        if (all.isEmpty()) return -1;
        List<Integer> last = all.subList(Math.max(0, all.size() - 12), all.size());
        int hits = (int) last.stream().filter(s -> follows(house, s)).count();
        return walk(last, 0, what == 1 ? 0 : hits);
    }

    /** More ways than one wants to walk one by one. */
    boolean isHeavy(int house) {
        if (!in(house, 0, 3)) return false;
        List<Integer> all = seasonsOf(house);
        double ways = 1;
        for (int s : all.subList(Math.max(0, all.size() - 12), all.size())) {
            ways *= Arrays.stream(now.shownAt(s)).filter(x -> x >= 0).count();
        }
        return ways > 600_000;
    }

    private long walk(List<Integer> seasons, int i, int wanted) {
        if (i == seasons.size()) return wanted <= 0 ? 1 : 0;
        long sum = 0;
        for (int h = 0; h < 4; h++) {
            if (now.shownAt(seasons.get(i))[h] >= 0) sum += walk(seasons, i + 1, wanted - (follows(h, seasons.get(i)) ? 1 : 0));
        }
        return sum;
    }

    private List<Boolean> couples(int lag) {
        List<Boolean> all = new ArrayList<>();
        for (int s = Math.max(1, lag + 1); s <= now.season; s++) {
            int m = now.moneyAt(s - lag) - now.moneyAt(s - lag - 1), l = line(s) - line(s - 1);
            if (m != 0 && l != 0) all.add(m > 0 == l > 0);
        }
        return all.subList(Math.max(0, all.size() - 40), all.size());
    }

    private static BigInteger odds(int hits, int n) {
        BigInteger sum = BigInteger.ZERO;
        for (int j = hits; j <= n; j++) {
            BigInteger c = BigInteger.ONE;
            for (int i = 1; i <= j; i++) c = c.multiply(BigInteger.valueOf(n - i + 1)).divide(BigInteger.valueOf(i));
            sum = sum.add(c);
        }
        return sum;
    }

    long claim(int lag, int what) {
        if (!in(lag, 0, 9) || !in(what, 0, 2)) return -1;
        List<Boolean> all = couples(lag);
        int hits = (int) all.stream().filter(b -> b).count();
        return what == 0 ? hits : what == 1 ? all.size() : odds(hits, all.size()).longValueExact();
    }

    int best() {
        int best = -1;
        BigInteger up = null, down = null;
        for (int lag = 0; lag < 10; lag++) {
            List<Boolean> all = couples(lag);
            if (all.isEmpty()) continue;
            BigInteger o = odds((int) all.stream().filter(b -> b).count(), all.size()), r = BigInteger.TWO.pow(all.size());
            if (best < 0 || o.multiply(down).compareTo(up.multiply(r)) < 0) { best = lag; up = o; down = r; }
        }
        return best;
    }

    int plate(int paper, int season, int length) {
        if (!in(paper, 0, 3) || !in(season, 0, 200) || !in(length, 0, 60) || plates.size() == 60) return -1;
        plates.add(new int[] {paper, season, length});
        return plates.size();
    }

    int off(int paper, int what) {
        if (!in(paper, 0, 3) || !in(what, 0, 2) || now.people.isEmpty()) return -1;
        int[] sums = new int[3];
        for (int[] p : plates) {
            if (p[0] != paper || p[1] > now.season) continue;
            sums[0] += Math.abs(100 * p[2] - line(p[1]));
            sums[1]++;
            List<Integer> worn = now.lengthsAt(p[1]);
            if (worn.stream().anyMatch(x -> x <= p[2]) && worn.stream().anyMatch(x -> x >= p[2])) sums[2]++;
        }
        return sums[what];
    }

    int again(int length, int what) {
        if (!in(length, 0, 60) || !in(what, 0, 2) || now.people.isEmpty()) return -1;
        StringBuilder marks = new StringBuilder();
        for (int s = 0; s <= now.season; s++) marks.append(Math.abs(line(s) - 100 * length) < 100 ? 'v' : '.');
        String m = marks.toString();
        if (what == 0) return m.replace(".", "").length();
        List<String> rows = new ArrayList<>(List.of(m.split("\\.+")));
        rows.remove("");
        if (what == 1) return rows.size();
        int longest = 0;
        String inner = m.replaceAll("^\\.+|\\.+$", "");
        for (String way : inner.split("v+")) longest = Math.max(longest, way.length());
        return longest;
    }

    int foretell(int n) {
        if (!in(n, 1, 50) || idle() || now.foretold.size() == 20) return -1;
        State w = now.copy();
        for (int i = 0; i < n; i++) season(w, law());
        now.foretold.add(new int[] {w.line(w.season), w.season, line(now.season)});
        return now.foretold.size() - 1;
    }

    int held(int k, int what) {
        if (!in(k, 0, now.foretold.size() - 1) || !in(what, 0, 3)) return -2;
        int[] f = now.foretold.get(k);
        if (what < 2) return f[what];
        if (f[1] > now.season) return -1;
        return Math.abs(line(f[1]) - f[what == 2 ? 0 : 2]);
    }

    int behind(int purse, int what) {
        if (!in(purse, 0, 99) || !in(what, 0, 3) || now.people.isEmpty()) return -1;
        int[] sums = new int[4];
        for (Person p : now.people) {
            int at = p.purse <= purse ? 0 : 2;
            sums[at] += Math.abs(100 * p.lengths.get(now.season) - line(now.season));
            sums[at + 1]++;
        }
        return sums[what];
    }

    int shop(int k, int what) {
        if (!in(k, 1, 6) || idle() || !(what == 0 || in(what, 10, 9 + k))) return -1;
        List<Integer> wishes = new ArrayList<>();
        for (int p = 0; p < now.people.size(); p++) wishes.add(wears(p, 6));
        wishes.sort(null);
        int least = clusters(wishes, k);
        if (what == 0) return least;
        int[] row = new int[k];
        if (!firstRow(wishes, row, 0, least)) throw new IllegalStateException("no row");
        return row[what - 10];
    }

    /** How far off at the least: the sorted wishes cut into k parts, each served by its middle one. */
    private static int clusters(List<Integer> wishes, int k) {
        int n = wishes.size();
        int[] best = new int[n + 1];
        for (int i = 1; i <= n; i++) best[i] = 1 << 20;
        for (int part = 0; part < k; part++) {
            int[] next = best.clone();
            for (int a = 0; a < n; a++) {
                for (int b = a + 1; b <= n; b++) {
                    int sum = 0;
                    for (int i = a; i < b; i++) sum += Math.abs(wishes.get(i) - wishes.get((a + b) / 2));
                    next[b] = Math.min(next[b], best[a] + sum);
                }
            }
            best = next;
        }
        return best[n];
    }

    /** The first row in its order that is so far off; what the lengths chosen so far cost at the least cuts the search. */
    private static boolean firstRow(List<Integer> wishes, int[] row, int i, int due) {
        int last = i == 0 ? -1 : row[i - 1];
        int sure = 0;
        for (int w : wishes) {
            if (i < row.length && w > last) continue;
            int near = 1 << 20;
            for (int j = 0; j < i; j++) near = Math.min(near, Math.abs(w - row[j]));
            sure += near;
        }
        if (sure > due) return false;
        if (i == row.length) return sure == due;
        for (int v = last + 1; v <= 60; v++) {
            row[i] = v;
            if (firstRow(wishes, row, i + 1, due)) return true;
        }
        return false;
    }

    int read(int law) {
        if (law == -1) {
            int best = -1, least = Integer.MAX_VALUE;
            for (int i = 0; i < laws.size(); i++) if (read(i) < least) { least = read(i); best = i; }
            return best;
        }
        if (!in(law, 0, laws.size() - 1)) return -1;
        int off = 0, counted = 0;
        for (int s = now.season; s >= 1 && counted < 20; s--, counted++) {
            for (int p = 0; p < now.people.size(); p++) {
                int[] a = now.people.get(p).asked.get(s - 1);
                off += Math.abs(wants(now, laws.get(law), p, s - 1, a[0], a[1], a[2])[0] - length(p, s));
            }
        }
        return off;
    }

    int image() {
        if (images.size() == 3) return -1;
        images.add(now.copy());
        return images.size() - 1;
    }

    boolean back(int image) {
        if (!in(image, 0, images.size() - 1)) return false;
        now = images.get(image).copy();
        return true;
    }

    int count(int what) {
        return switch (what) {
            case 0 -> now.people.size();
            case 1 -> now.season;
            case 2 -> laws.size();
            case 3 -> inForce;
            case 4 -> inForce < 0 ? 0 : law().size();
            case 5 -> plates.size();
            case 6 -> now.foretold.size();
            case 7 -> images.size();
            case 8 -> tape.size();
            case 9 -> now.money;
            case 10, 11, 12, 13 -> now.houses[what - 10];
            default -> -1;
        };
    }
}
