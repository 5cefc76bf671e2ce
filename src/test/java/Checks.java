/** Counts what's wrong in one named test, and helps to bring objects into a state. */
final class Checks {
    private final String name;
    private final StringBuilder wrong = new StringBuilder();

    Checks(String name) {
        this.name = name;
    }

    void is(String call, long got, long due) {
        if (got != due) {
            wrong.append(' ').append(call).append(" answered ").append(got).append(", due is ").append(due).append(';');
        }
    }

    void is(String call, boolean got, boolean due) {
        is(call, got ? 1 : 0, due ? 1 : 0);
    }

    boolean end() {
        boolean well = wrong.length() == 0;
        System.out.println((well ? "PASS " : "FAIL ") + name + (well ? "" : ":" + wrong));
        return well;
    }

    /** Feeds a text, filled up with blanks, and tells its own bytes as a LAW. */
    static int tell(HemLine x, String text) {
        feed(x, text);
        return x.law(text.length());
    }

    static int feed(HemLine x, String text) {
        int fed = x.count(8);
        for (int from = 0; from < text.length(); from += 20) {
            int[] v = new int[5];
            for (int i = 0; i < 20; i++) {
                int b = from + i < text.length() ? text.charAt(from + i) : ' ';
                v[i / 4] = v[i / 4] << 8 | b;
            }
            fed = x.feed(v[0], v[1], v[2], v[3], v[4]);
        }
        return fed;
    }

    /** One PERSON who wears what HOUSE 0 shows, at no price; its first LENGTH is told. */
    static HemLine follower(int length) {
        HemLine x = new HemLine();
        x.person(5, 1, length);
        tell(x, "to house 0 60;");
        return x;
    }

    /** A follower's next SEASONS, by its LENGTHS. */
    static void walk(HemLine x, int... lengths) {
        for (int length : lengths) {
            x.shows(0, length);
            x.run(1);
        }
    }

    static String times(String part, int n) {
        StringBuilder all = new StringBuilder();
        for (int i = 0; i < n; i++) {
            all.append(part);
        }
        return all.toString();
    }
}
