/** Three people on a street, two laws, and what can be asked of them. */
public final class Street {
    public static void main(String[] args) {
        HemLine street = new HemLine();

        // in SEASON 0: people (rank, purse, length), and who sees whom
        int lady = street.person(5, 10, 10);
        int clerk = street.person(3, 4, 20);
        int maid = street.person(1, 0, 31);
        street.sees(clerk, lady, true);
        street.sees(maid, clerk, true);

        // at any time: houses, money, what a new skirt or a new seam costs
        street.shows(0, 14);
        street.money(30);
        street.set(5, 2, 0);            // price 5; up to 2 inches off it costs 0

        // a law is a text; the law told last is in force
        int bad = tell(street, "to above; stay;");
        System.out.println("law " + bad + ", fault at " + street.fault());
        int up = tell(street, "to above 4; to house 0 2;");
        int still = tell(street, "stay;");
        street.force(up);
        System.out.println("laws " + up + " and " + still + ", in force " + street.count(3));

        // what would come, and what comes
        int said = street.foretell(5);
        int image = street.image();
        System.out.println("season " + street.run(5) + ", line " + street.line(5));
        System.out.println("foretold " + street.held(said, 0) + ", off " + street.held(said, 2));
        for (int s = 0; s <= 5; s++) {
            System.out.println(s + ": " + street.length(lady, s) + " " + street.length(clerk, s)
                + " " + street.length(maid, s) + ", line " + street.line(s));
        }
        System.out.println("maid couldn't pay " + street.wears(maid, 13) + " times");
        System.out.println("house 0 followed " + street.followed(0, 0) + " of " + street.followed(0, 1));
        System.out.println("a shop with two lengths: " + street.shop(2, 10) + " and " + street.shop(2, 11)
            + ", off " + street.shop(2, 0));
        System.out.println("law " + street.read(HemLine.NONE) + " reads it best, off " + street.read(still)
            + " (law " + up + ": " + street.read(up) + ")");

        // back to the day of the image
        street.back(image);
        System.out.println("season " + street.count(1) + ", run(61) is " + street.run(61));
    }

    /** Puts a text on the tape, twenty bytes a call, the highest byte of each number first, and tells it. */
    static int tell(HemLine street, String text) {
        for (int from = 0; from < text.length(); from += 20) {
            int[] v = new int[5];
            for (int i = 0; i < 20; i++) {
                int sign = from + i < text.length() ? text.charAt(from + i) : ' ';
                v[i / 4] = v[i / 4] << 8 | sign;
            }
            street.feed(v[0], v[1], v[2], v[3], v[4]);
        }
        return street.law(text.length());
    }
}
