/** Counts what's wrong in one named test, and helps to bring objects into a state. */
final class Checks {
    private final String name;
    private final StringBuilder wrong = new StringBuilder();

    Checks(String name) {
        this.name = name;
    }

    void is(String call, long got, long due) {
        if (got != due) {
            wrong.append(' ').append(call).append(" answered ").append(got).append(", due is ").append(due).append(';');
        }
    }

    void is(String call, boolean got, boolean due) {
        is(call, got ? 1 : 0, due ? 1 : 0);
    }

    boolean end() {
        boolean well = wrong.length() == 0;
        System.out.println((well ? "PASS " : "FAIL ") + name + (well ? "" : ":" + wrong));
        return well;
    }

    /** Feeds a text, filled up with blanks, and tells its own bytes as a LAW. */
    static int tell(HemLine x, String text) {
        feed(x, text);
        return x.law(text.length());
    }

    static int feed(HemLine x, String text) {
        int fed = x.count(8);
        for (int from = 0; from < text.length(); from += 20) {
            int[] v = new int[5];
            for (int i = 0; i < 20; i++) {
                int b = from + i < text.length() ? text.charAt(from + i) : ' ';
                v[i / 4] = v[i / 4] << 8 | b;
            }
            fed = x.feed(v[0], v[1], v[2], v[3], v[4]);
        }
        return fed;
    }

    /** One PERSON who wears what HOUSE 0 shows, at no price; its first LENGTH is told. */
    static HemLine follower(int length) {
        HemLine x = new HemLine();
        x.person(5, 1, length);
        tell(x, "to house 0 60;");
        return x;
    }

    /** A follower's next SEASONS, by its LENGTHS. */
    static void walk(HemLine x, int... lengths) {
        for (int length : lengths) {
            x.shows(0, length);
            x.run(1);
        }
    }

    /** One PERSON for each HOUSE at most, of RANK 0, 1 .., who wears what the HOUSE of that number shows, at no price. */
    static HemLine dancers(int... lengths) {
        HemLine x = new HemLine();
        for (int p = 0; p < lengths.length; p++) {
            x.person(p, 0, lengths[p]);
        }
        tell(x, "to house 0 60 if rank=0;to house 1 60 if rank=1;to house 2 60 if rank=2;to house 3 60;");
        return x;
    }

    /** The dancers' next SEASON. */
    static void step(HemLine x, int... lengths) {
        for (int p = 0; p < lengths.length; p++) {
            x.shows(p, lengths[p]);
        }
        x.run(1);
    }

    /** What can be seen of an object without a change, in fewer than 200 calls. */
    static long[] answers(HemLine x) {
        long[] all = new long[200];
        int n = 0;
        for (int i = 0; i < 14; i++) all[n++] = x.count(i);
        all[n++] = x.fault();
        int[] people = {0, 1, x.count(0) - 1};
        for (int p : people) for (int i = 0; i < 16; i++) all[n++] = i < 7 || i > 9 ? x.wears(p, i) : 0;
        for (int i = 0; i < 3; i++) all[n++] = x.line(x.count(1) - i);
        int[] foretold = {0, x.count(6) - 1};
        for (int k : foretold) for (int i = 0; i < 4; i++) all[n++] = x.held(k, i);
        for (int i = 0; i < 4; i++) {
            for (int what = 0; what < 3; what++) all[n++] = x.off(i, what);
            for (int what = 0; what < 2; what++) all[n++] = x.followed(i, what);
            all[n++] = x.luck(i, 0);
        }
        for (int i = -1; i < 5; i++) all[n++] = x.read(i);
        for (int i = 0; i < 3; i++) all[n++] = x.claim(i, 2);
        all[n++] = x.best();
        all[n++] = x.street(-1, 0);
        all[n++] = x.shop(2, 0);
        all[n++] = x.round(9, 0);
        all[n++] = x.pushed(9, 1, 99, 0);
        all[n++] = x.again(20, 0);
        all[n++] = x.behind(4, 0);
        return all;
    }

    /** A refused call did nothing: all is as in a twin that never saw it, also what can't be asked but only runs on. */
    void untouched(String call, HemLine x, HemLine twin) {
        same(call, answers(x), answers(twin));
        if (x.run(3) != twin.run(3)) {
            is(call + ": run(3)", true, false);
        }
        same(call + " and run(3)", answers(x), answers(twin));
    }

    private void same(String call, long[] got, long[] due) {
        for (int i = 0; i < due.length; i++) {
            is(call + ": answer " + i + " of all", got[i], due[i]);
        }
    }

    /** What a LAW asks, of PERSON 0 in SEASON 1: LENGTH 30, PURSE 7, COIN 7, RANK 5, MONEY 44; sees 20 and 41 of RANK 9, 10 of RANK 2. */
    static boolean holds(String any) {
        HemLine x = new HemLine();
        x.person(5, 7, 30);
        x.person(9, 1, 20);
        x.person(9, 1, 41);
        x.person(2, 1, 10);
        for (int p = 1; p < 4; p++) x.sees(0, p, true);
        x.money(44);
        x.shows(0, 60);
        tell(x, "to house 0 1 if " + any + ";");
        x.run(1);
        return x.wears(0, 2) == 31;
    }

    static String times(String part, int n) {
        StringBuilder all = new StringBuilder();
        for (int i = 0; i < n; i++) {
            all.append(part);
        }
        return all.toString();
    }
}
