import java.util.Arrays;

/** Skirts by inches and seasons. README.md tells how it is used, DOC.md what each method promises. */
public final class HemLine {
    public static final int NONE = -1;

    private static final int MOST_PEOPLE = 16;
    private static final int HOUSES = 4;
    private static final int LONGEST = 60;
    private static final int LAST_SEASON = 200;
    private static final int LONGEST_TRIAL = 100;
    private static final int MOST_COIN = 9999;
    private static final int TAPE = 700;
    private static final int MOST_LAWS = 5;
    private static final int MOST_IMAGES = 3;
    private static final int MOST_FORETOLD = 20;

    private final byte[] tape;
    private int fed;
    private final LawReader reader;
    private final Law[] laws;
    private int lawCount;
    private int forced;
    private int faultPlace;
    private final World world;
    private final Trials trials;
    private final Chronicle chronicle;
    private final Signs signs;
    private final Plates plates;
    private final Shelf shelf;
    private final World[] images;
    private int imageCount;

    public HemLine() {
        tape = new byte[TAPE];
        fed = 0;
        reader = new LawReader(tape);
        laws = new Law[MOST_LAWS];
        lawCount = 0;
        forced = NONE;
        faultPlace = NONE;
        world = new World(LAST_SEASON + LONGEST_TRIAL + 1);
        trials = new Trials(world);
        chronicle = new Chronicle(world);
        signs = new Signs(world);
        plates = new Plates(world);
        shelf = new Shelf(world);
        images = new World[MOST_IMAGES];
        imageCount = 0;
    }

    public int person(int rank, int purse, int length) {
        boolean asTold = within(rank, 0, 9) && within(purse, 0, 99) && within(length, 0, LONGEST);
        if (!asTold || world.season != 0) {
            return NONE;
        }
        int person = world.people.join(rank, purse);
        if (person != NONE) {
            world.past.lengths[person] = length;
            world.past.sums[0] += length;
        }
        return person;
    }

    public boolean sees(int one, int other, boolean is) {
        if (!world.people.has(one) || !world.people.has(other) || one == other) {
            return false;
        }
        int bit = 1 << other;
        int seen = world.people.sees[one];
        world.people.sees[one] = is ? seen | bit : seen & ~bit;
        return true;
    }

    public boolean shows(int house, int length) {
        if (!isHouse(house) || !within(length, NONE, LONGEST)) {
            return false;
        }
        world.past.shown[world.season * HOUSES + house] = length;
        return true;
    }

    public boolean money(int v) {
        if (!within(v, 0, 99)) {
            return false;
        }
        world.past.moneys[world.season] = v;
        return true;
    }

    public boolean set(int price, int seam, int over) {
        if (!within(price, 0, 999) || !within(seam, 0, 9) || !within(over, 0, 99)) {
            return false;
        }
        world.price = price;
        world.seam = seam;
        world.over = over;
        return true;
    }

    public boolean seed(int z) {
        if (!within(z, 0, 999_999_999)) {
            return false;
        }
        world.z = z;
        return true;
    }

    public int feed(int a, int b, int c, int d, int e) {
        if (fed + 20 > TAPE) {
            return NONE;
        }
        putOnTape(a);
        putOnTape(b);
        putOnTape(c);
        putOnTape(d);
        putOnTape(e);
        return fed;
    }

    public int law(int n) {
        if (n < 0 || n > fed) {
            return -2;
        }
        if (lawCount >= MOST_LAWS) {
            return -3;
        }
        fed = 0;
        Law told = reader.compile(n);
        if (told == null) {
            faultPlace = reader.placeAtHand();
            return NONE;
        }
        faultPlace = NONE;
        laws[lawCount] = told;
        forced = lawCount;
        lawCount++;
        return forced;
    }

    public boolean force(int law) {
        if (!within(law, 0, lawCount - 1)) {
            return false;
        }
        forced = law;
        return true;
    }

    public int fault() {
        return faultPlace;
    }

    public int run(int n) {
        Law law = lawInForce();
        if (!within(n, 1, 60) || world.season + n > LAST_SEASON || world.people.isEmpty() || law == null) {
            return NONE;
        }
        for (int i = 0; i < n; i++) {
            world.pass(law);
        }
        return world.season;
    }

    public int line(int season) {
        return world.hasSeason(season) ? world.lineAt(season) : NONE;
    }

    public int length(int person, int season) {
        if (!world.people.has(person) || !world.hasSeason(season)) {
            return NONE;
        }
        return world.past.lengthOf(person, season);
    }

    public int wears(int person, int what) {
        if (!world.people.has(person)) {
            return NONE;
        }
        People people = world.people;
        switch (what) {
            case 0: return people.rank[person];
            case 1: return people.purse[person];
            case 2: return world.past.lengthOf(person, world.season);
            case 3: return people.coin[person];
            case 4: return people.worn[person];
            case 5: return people.sees[person];
            case 6: return world.wishNow(lawInForce(), person);
            default: return within(what, 10, 15) ? people.tally[person * People.TALLIES + what - 10] : NONE;
        }
    }

    public int round(int n, int what) {
        Law law = lawInForce();
        boolean asTold = within(n, 1, LONGEST_TRIAL) && within(what, 0, 1);
        if (!asTold || law == null || world.people.isEmpty()) {
            return NONE;
        }
        trials.rehearse(law, n, 1, NONE);
        return trials.roundIn(n, 1, what);
    }

    public int pushed(int n, int every, int money, int what) {
        Law law = lawInForce();
        boolean asTold = within(n, 1, LONGEST_TRIAL) && within(every, 1, 20) && within(money, 0, 99)
            && within(what, 0, 1);
        if (!asTold || law == null || world.people.isEmpty()) {
            return NONE;
        }
        trials.rehearse(law, n, every, money);
        return trials.roundIn(n, 2 * every, what);
    }

    public int led(int person, int what) {
        if (!world.people.has(person) || !within(what, 0, 3)) {
            return NONE;
        }
        return chronicle.changesOf(person, what);
    }

    public int alone(int gap, int n, int what) {
        if (!within(gap, 1, LONGEST) || !within(n, 1, 20) || !within(what, 0, 2)) {
            return NONE;
        }
        return chronicle.startsOf(gap, n, what);
    }

    public int like(int n, int what) {
        if (!within(n, 1, 10) || !within(what, 0, 1) || world.people.isEmpty()) {
            return NONE;
        }
        int season = chronicle.mostLike(n);
        if (season == NONE || what == 0) {
            return season;
        }
        return world.lineAt(season + 1) + world.lineAt(world.season) - world.lineAt(season);
    }

    public int street(int person, int what) {
        if (person == NONE && what == 0) {
            return world.people.streetCount();
        }
        if (!world.people.has(person) || !within(what, 0, 1)) {
            return NONE;
        }
        int street = world.people.streetOf(person);
        return what == 0 ? world.people.leastOf(street) : world.lineOf(street);
    }

    public int followed(int house, int what) {
        if (!isHouse(house) || !within(what, 0, 1)) {
            return NONE;
        }
        return what == 0 ? signs.followedSeasons(house) : signs.shownSeasons(house);
    }

    public long luck(int house, int what) {
        if (!isHouse(house) || !within(what, 0, 1) || signs.shownSeasons(house) == 0) {
            return NONE;
        }
        return signs.waysOf(house, what == 1);
    }

    public long claim(int lag, int what) {
        if (!within(lag, 0, Signs.LAST_LAG) || !within(what, 0, 2)) {
            return NONE;
        }
        signs.gather(lag);
        if (what == 2) {
            return signs.odds();
        }
        return what == 0 ? signs.hits : signs.couples;
    }

    public int best() {
        return signs.bestLag();
    }

    public int plate(int paper, int season, int length) {
        boolean asTold = within(paper, 0, 3) && within(season, 0, LAST_SEASON) && within(length, 0, LONGEST);
        return asTold ? plates.add(paper, season, length) : NONE;
    }

    public int off(int paper, int what) {
        if (!within(paper, 0, 3) || !within(what, 0, 2) || world.people.isEmpty()) {
            return NONE;
        }
        return plates.offOf(paper, what);
    }

    public int again(int length, int what) {
        if (!within(length, 0, LONGEST) || !within(what, 0, 2) || world.people.isEmpty()) {
            return NONE;
        }
        return chronicle.visitsOf(length, what);
    }

    public int foretell(int n) {
        Law law = lawInForce();
        if (!within(n, 1, 50) || law == null || world.people.isEmpty()) {
            return NONE;
        }
        trials.rehearse(law, n, 1, NONE);
        int season = world.season + n;
        return world.keepForetold(season, world.lineAt(season), world.lineAt(world.season));
    }

    public int held(int k, int what) {
        if (!within(k, 0, world.foretold - 1) || !within(what, 0, 3)) {
            return -2;
        }
        int season = world.foretoldSeasons[k];
        if (what < 2) {
            return what == 0 ? world.foretoldLines[k] : season;
        }
        if (!world.hasSeason(season)) {
            return NONE;
        }
        int said = what == 2 ? world.foretoldLines[k] : world.linesThen[k];
        return Math.abs(said - world.lineAt(season));
    }

    public int behind(int purse, int what) {
        if (!within(purse, 0, 99) || !within(what, 0, 3) || world.people.isEmpty()) {
            return NONE;
        }
        return chronicle.farFromLine(purse, what >= 2, what % 2 == 1);
    }

    public int shop(int k, int what) {
        Law law = lawInForce();
        boolean asTold = within(k, 1, Shelf.MOST) && (what == 0 || within(what, 10, 9 + k));
        if (!asTold || law == null || world.people.isEmpty()) {
            return NONE;
        }
        shelf.gatherWishes(law);
        shelf.order(k);
        return what == 0 ? shelf.off : shelf.chosen[what - 10];
    }

    public int read(int law) {
        if (law == NONE) {
            return lawReadingBest();
        }
        return within(law, 0, lawCount - 1) ? chronicle.offOf(laws[law]) : NONE;
    }

    public int image() {
        if (imageCount >= MOST_IMAGES) {
            return NONE;
        }
        World kept = new World(world.season + 1);
        kept.copyOf(world);
        images[imageCount] = kept;
        imageCount++;
        return imageCount - 1;
    }

    public boolean back(int image) {
        if (!within(image, 0, imageCount - 1)) {
            return false;
        }
        World kept = images[image];
        if (kept == null) {
            return false;
        }
        world.copyOf(kept);
        return true;
    }

    public int count(int what) {
        Law law = lawInForce();
        switch (what) {
            case 0: return world.people.size;
            case 1: return world.season;
            case 2: return lawCount;
            case 3: return forced;
            case 4: return law == null ? 0 : law.rules;
            case 5: return plates.size;
            case 6: return world.foretold;
            case 7: return imageCount;
            case 8: return fed;
            case 9: return world.past.moneys[world.season];
            default: return isHouse(what - 10) ? world.past.shownBy(what - 10, world.season) : NONE;
        }
    }

    private static boolean within(int v, int least, int most) {
        return v >= least && v <= most;
    }

    private static boolean isHouse(int house) {
        return within(house, 0, HOUSES - 1);
    }

    private void putOnTape(int number) {
        for (int shift = 24; shift >= 0 && fed < tape.length; shift -= 8) {
            tape[fed] = (byte) (number >> shift);
            fed++;
        }
    }

    private Law lawInForce() {
        return within(forced, 0, lawCount - 1) ? laws[forced] : null;
    }

    private int lawReadingBest() {
        int best = NONE;
        int least = 0;
        for (int i = 0; i < lawCount; i++) {
            int off = chronicle.offOf(laws[i]);
            if (best == NONE || off < least) {
                best = i;
                least = off;
            }
        }
        return best;
    }

    /**
     * A LAW as numbers. Of each RULE: its head (VERB, WHOM, BY and the number of HOUSE or "old" in
     * bits), the place behind it, then its ANY with each sign behind what it binds.
     */
    static final class Law {
        static final int TO = 0;
        static final int FROM = 1;
        static final int STAY = 2;
        static final int ALL = 3;
        static final int HOUSE = 4;
        static final int OLD = 5;
        static final int NOT = -1;
        static final int AND = -2;
        static final int OR = -3;

        final int[] code;
        final int rules;

        Law(int[] code, int rules) {
            this.code = code;
            this.rules = rules;
        }

        static int head(int verb, int whom, int number, int by) {
            return verb | whom << 2 | by << 5 | number << 11;
        }

        static int verbOf(int head) {
            return head & 3;
        }

        static int whomOf(int head) {
            return head >> 2 & 7;
        }

        static int byOf(int head) {
            return head >> 5 & 63;
        }

        static int numberOf(int head) {
            return head >> 11;
        }

        static int comparison(int word, int sign, int number) {
            return number << 11 | sign << 4 | word;
        }

        static int wordOf(int comparison) {
            return comparison & 15;
        }

        static boolean compares(int comparison, int value) {
            int sign = comparison >> 4 & 127;
            int number = comparison >> 11;
            if (sign == '<') {
                return value < number;
            }
            return sign == '>' ? value > number : value == number;
        }
    }

    /** Reads the text of a LAW; where it can't go on, the token at hand is the FAULT. */
    static final class LawReader {
        /** Six places for each word: what a LAW asks (its means last), then WHOM else, then the rest. */
        private static final String WORDS =
            "seasonlengthpurse coin  rank  money chanceworn  above below alike all   house old   to    from  stay  if    and   or    not   ";
        private static final int PLACES = 6;
        private static final int FIRST_MEAN = 8;
        private static final int ASKED_WORDS = 12;
        private static final int KNOWN_WORDS = 21;
        private static final int MOST_RULES = 16;
        private static final int MOST_OPEN = 8;

        /** Kinds of tokens: a number is what it says, a word or a sign stands that much higher. */
        private static final int OTHER = -3;
        private static final int END = -2;
        private static final int WORD = 10_000;
        private static final int SIGN = 20_000;
        private static final int TO = WORD + 14;
        private static final int STAY = WORD + 16;
        private static final int IF = WORD + 17;
        private static final int AND = WORD + 18;
        private static final int OR = WORD + 19;
        private static final int NOT = WORD + 20;

        private final byte[] text;
        private int size;
        private final int[] tokens;
        private final int[] places;
        private int at;
        private final int[] code;
        private int used;

        LawReader(byte[] text) {
            this.text = text;
            size = 0;
            tokens = new int[TAPE + 1];
            places = new int[TAPE + 1];
            at = 0;
            code = new int[TAPE];
            used = 0;
        }

        /** Null with a FAULT. */
        Law compile(int n) {
            size = within(n, 0, text.length) ? n : 0;
            used = 0;
            split();
            at = 0;
            for (int rules = 0; rules <= MOST_RULES; rules++) {
                if (tokens[at] == END) {
                    return new Law(Arrays.copyOf(code, used), rules);
                }
                if (rules == MOST_RULES || !readRule()) {
                    return null;
                }
            }
            return null;
        }

        int placeAtHand() {
            return places[at];
        }

        private void split() {
            int from = 0;
            int count = 0;
            while (from < size && count < TAPE) {
                int end = from + 1;
                if (text[from] != ' ' && text[from] != 10) {
                    end = endOfToken(from);
                    tokens[count] = tokenOf(from, end);
                    places[count] = from;
                    count++;
                }
                from = end;
            }
            tokens[count] = END;
            places[count] = size;
        }

        private int endOfToken(int from) {
            int end = from + 1;
            if (isLetter(text[from])) {
                while (end < size && isLetter(text[end])) {
                    end++;
                }
            } else if (isDigit(text[from])) {
                while (end < size && isDigit(text[end])) {
                    end++;
                }
            }
            return end;
        }

        private int tokenOf(int from, int end) {
            int first = text[from];
            if (isLetter(first)) {
                return wordOf(from, end);
            }
            if (isDigit(first)) {
                return numberOf(from, end);
            }
            boolean isSign = first == ';' || first == '(' || first == ')'
                || first == '<' || first == '>' || first == '=';
            return isSign ? SIGN + first : OTHER;
        }

        private int wordOf(int from, int end) {
            for (int word = 0; word < KNOWN_WORDS && end - from <= PLACES; word++) {
                boolean same = true;
                for (int i = 0; i < PLACES && same; i++) {
                    int letter = from + i < end ? text[from + i] : ' ';
                    same = letter == WORDS.charAt(word * PLACES + i);
                }
                if (same) {
                    return WORD + word;
                }
            }
            return OTHER;
        }

        private int numberOf(int from, int end) {
            if (end - from > 4) {
                return OTHER;
            }
            int value = 0;
            for (int i = from; i < end; i++) {
                value = value * 10 + text[i] - '0';
            }
            return value;
        }

        private static boolean isLetter(int b) {
            return b >= 'a' && b <= 'z';
        }

        private static boolean isDigit(int b) {
            return b >= '0' && b <= '9';
        }

        private boolean readRule() {
            int head = used;
            put(0);
            put(0);
            int aim = readAim();
            if (aim == NONE) {
                return false;
            }
            if (takes(IF) && !readAny(0)) {
                return false;
            }
            if (head + 1 < code.length) {
                code[head] = aim;
                code[head + 1] = used;
            }
            return takes(SIGN + ';');
        }

        private int readAim() {
            int verb = tokens[at] - TO;
            if (!within(verb, Law.TO, Law.STAY)) {
                return NONE;
            }
            at++;
            if (verb == Law.STAY) {
                return Law.head(verb, 0, 0, 0);
            }
            int whom = tokens[at] - WORD - FIRST_MEAN;
            if (!within(whom, 0, Law.OLD)) {
                return NONE;
            }
            at++;
            int number = 0;
            if (whom == Law.HOUSE) {
                number = readNumber(0, HOUSES - 1);
            } else if (whom == Law.OLD) {
                number = readNumber(1, 99);
            }
            if (number == NONE) {
                return NONE;
            }
            int by = readNumber(0, LONGEST);
            return by == NONE ? NONE : Law.head(verb, whom, number, by);
        }

        private boolean readAny(int open) {
            boolean well = readAll(open);
            for (int i = 0; i < TAPE && well && takes(OR); i++) {
                well = readAll(open);
                put(Law.OR);
            }
            return well;
        }

        private boolean readAll(int open) {
            boolean well = readOne(open);
            for (int i = 0; i < TAPE && well && takes(AND); i++) {
                well = readOne(open);
                put(Law.AND);
            }
            return well;
        }

        private boolean readOne(int open) {
            boolean not = tokens[at] == NOT;
            if (!not && tokens[at] != SIGN + '(') {
                return readComparison();
            }
            if (open >= MOST_OPEN) {
                return false;
            }
            at++;
            if (not) {
                boolean well = readOne(open + 1);
                put(Law.NOT);
                return well;
            }
            return readAny(open + 1) && takes(SIGN + ')');
        }

        private boolean readComparison() {
            int word = tokens[at] - WORD;
            if (!within(word, 0, ASKED_WORDS - 1)) {
                return false;
            }
            at++;
            int sign = tokens[at] - SIGN;
            if (sign != '<' && sign != '>' && sign != '=') {
                return false;
            }
            at++;
            int number = readNumber(0, 9999);
            if (number == NONE) {
                return false;
            }
            put(Law.comparison(word, sign, number));
            return true;
        }

        private int readNumber(int least, int most) {
            int number = tokens[at];
            if (number < least || number > most) {
                return NONE;
            }
            at++;
            return number;
        }

        /** The END is never taken, so there's always a token at hand. */
        private boolean takes(int token) {
            if (tokens[at] != token) {
                return false;
            }
            at++;
            return true;
        }

        private void put(int number) {
            if (used < code.length) {
                code[used] = number;
                used++;
            }
        }
    }

    /** The PEOPLE but for their LENGTHS, which stand in the rows of the Past. */
    static final class People {
        static final int TALLIES = 6;

        int size;
        final int[] rank;
        final int[] purse;
        final int[] sees;
        final int[] coin;
        final int[] worn;
        final int[] tally;

        People() {
            size = 0;
            rank = new int[MOST_PEOPLE];
            purse = new int[MOST_PEOPLE];
            sees = new int[MOST_PEOPLE];
            coin = new int[MOST_PEOPLE];
            worn = new int[MOST_PEOPLE];
            tally = new int[MOST_PEOPLE * TALLIES];
        }

        boolean isEmpty() {
            return size == 0;
        }

        boolean has(int person) {
            return within(person, 0, size - 1);
        }

        int join(int itsRank, int itsPurse) {
            if (size >= MOST_PEOPLE) {
                return NONE;
            }
            int person = size;
            size++;
            rank[person] = itsRank;
            purse[person] = itsPurse;
            sees[person] = 0;
            coin[person] = 0;
            worn[person] = 0;
            for (int i = 0; i < TALLIES; i++) {
                tally[person * TALLIES + i] = 0;
            }
            return person;
        }

        void tell(int person, int what) {
            tally[person * TALLIES + what - 10]++;
        }

        void copyOf(People other) {
            size = other.size;
            System.arraycopy(other.rank, 0, rank, 0, size);
            System.arraycopy(other.purse, 0, purse, 0, size);
            System.arraycopy(other.sees, 0, sees, 0, size);
            System.arraycopy(other.coin, 0, coin, 0, size);
            System.arraycopy(other.worn, 0, worn, 0, size);
            System.arraycopy(other.tally, 0, tally, 0, size * TALLIES);
        }

        /** As bits. */
        int streetOf(int person) {
            int street = 1 << person;
            for (int i = 0; i < size; i++) {
                int wider = withNeighbours(street);
                if (wider == street) {
                    return street;
                }
                street = wider;
            }
            return street;
        }

        int leastOf(int street) {
            for (int p = 0; p < size; p++) {
                if ((street >> p & 1) != 0) {
                    return p;
                }
            }
            return NONE;
        }

        int streetCount() {
            int streets = 0;
            for (int p = 0; p < size; p++) {
                if (leastOf(streetOf(p)) == p) {
                    streets++;
                }
            }
            return streets;
        }

        private int withNeighbours(int street) {
            int wider = street;
            for (int p = 0; p < size; p++) {
                if ((street >> p & 1) != 0) {
                    wider |= sees[p];
                } else if ((sees[p] & street) != 0) {
                    wider |= 1 << p;
                }
            }
            return wider;
        }
    }

    /** A row for each SEASON. The rows behind now are free: a TRIAL writes its own there. */
    static final class Past {
        final int rows;
        final int[] lengths;
        final int[] sums;
        final int[] asked;
        final int[] shown;
        final int[] moneys;

        Past(int rows) {
            this.rows = Math.max(1, rows);
            lengths = new int[this.rows * MOST_PEOPLE];
            sums = new int[this.rows];
            asked = new int[this.rows * MOST_PEOPLE];
            shown = new int[this.rows * HOUSES];
            moneys = new int[this.rows];
            Arrays.fill(shown, NONE);
        }

        int lengthOf(int person, int season) {
            return lengths[season * MOST_PEOPLE + person];
        }

        int shownBy(int house, int season) {
            return shown[season * HOUSES + house];
        }

        /** What the LAW was asked by stands in one number, so that an object stays small. */
        void noteAsked(int person, int season, int coin, int worn, int chance) {
            asked[season * MOST_PEOPLE + person] = (coin << 9 | worn) << 7 | chance;
        }

        int coinAsked(int person, int season) {
            return asked[season * MOST_PEOPLE + person] >> 16;
        }

        int wornAsked(int person, int season) {
            return asked[season * MOST_PEOPLE + person] >> 7 & 511;
        }

        int chanceAsked(int person, int season) {
            return asked[season * MOST_PEOPLE + person] & 127;
        }

        void carryOn(int season) {
            moneys[season + 1] = moneys[season];
            System.arraycopy(shown, season * HOUSES, shown, (season + 1) * HOUSES, HOUSES);
        }

        boolean sameLengths(int one, int other, int people) {
            if (sums[one] != sums[other]) {
                return false;
            }
            for (int p = 0; p < people; p++) {
                if (lengthOf(p, one) != lengthOf(p, other)) {
                    return false;
                }
            }
            return true;
        }

        void copyOf(Past other, int told) {
            int n = Math.min(told, Math.min(rows, other.rows));
            System.arraycopy(other.lengths, 0, lengths, 0, n * MOST_PEOPLE);
            System.arraycopy(other.sums, 0, sums, 0, n);
            System.arraycopy(other.asked, 0, asked, 0, n * MOST_PEOPLE);
            System.arraycopy(other.shown, 0, shown, 0, n * HOUSES);
            System.arraycopy(other.moneys, 0, moneys, 0, n);
        }
    }

    /** What a PERSON WANTS for a SEASON, by the row of the one ahead. */
    static final class Reckoner {
        private final People people;
        private final Past past;
        /** In the order of the reader's WORDS. */
        private final int[] answers;
        private final int[] counts;
        /** Of above, below, alike, all; NONE without. */
        final int[] means;
        int verb;

        Reckoner(People people, Past past) {
            this.people = people;
            this.past = past;
            answers = new int[LawReader.ASKED_WORDS];
            counts = new int[Law.ALL + 1];
            means = new int[Law.ALL + 1];
            verb = Law.STAY;
        }

        int wishOf(Law law, int person, int season, int coin, int worn, int chance) {
            int own = past.lengthOf(person, season - 1);
            answers[0] = season;
            answers[1] = own;
            answers[2] = people.purse[person];
            answers[3] = coin;
            answers[4] = people.rank[person];
            answers[5] = past.moneys[season - 1];
            answers[6] = chance;
            answers[7] = worn;
            look(person, season - 1);
            for (int i = 0; i <= Law.ALL; i++) {
                answers[LawReader.FIRST_MEAN + i] = Math.max(0, means[i]);
            }
            return wishByRules(law, own, season - 1);
        }

        /** Sums first, so that one walk over all it SEES is enough. */
        void look(int person, int season) {
            Arrays.fill(counts, 0);
            Arrays.fill(means, 0);
            for (int p = 0; p < people.size; p++) {
                if ((people.sees[person] >> p & 1) != 0) {
                    int above = people.rank[p] - people.rank[person];
                    int whom = above > 0 ? 0 : above < 0 ? 1 : 2;
                    means[whom] += past.lengthOf(p, season);
                    counts[whom]++;
                }
            }
            means[Law.ALL] = means[0] + means[1] + means[2];
            counts[Law.ALL] = counts[0] + counts[1] + counts[2];
            for (int i = 0; i <= Law.ALL; i++) {
                means[i] = counts[i] == 0 ? NONE : means[i] / counts[i];
            }
        }

        private int wishByRules(Law law, int own, int season) {
            int[] code = law.code;
            int at = 0;
            for (int rule = 0; rule < law.rules && at + 1 < code.length; rule++) {
                int head = code[at];
                int behind = Math.min(code[at + 1], code.length);
                if (holds(code, at + 2, behind)) {
                    verb = Law.verbOf(head);
                    int mean = verb == Law.STAY ? own : meanOf(head, season);
                    if (mean != NONE) {
                        return goal(own, mean, Law.byOf(head));
                    }
                }
                at = behind;
            }
            verb = Law.STAY;
            return own;
        }

        private int meanOf(int head, int season) {
            int whom = Law.whomOf(head);
            int number = Law.numberOf(head);
            if (whom <= Law.ALL) {
                return means[whom];
            }
            if (whom == Law.HOUSE) {
                return past.shownBy(Math.min(number, HOUSES - 1), season);
            }
            boolean recorded = season - number >= 0;
            return recorded && people.size > 0 ? past.sums[season - number] / people.size : NONE;
        }

        private int goal(int own, int mean, int by) {
            if (verb == Law.TO) {
                return own < mean ? Math.min(mean, own + by) : Math.max(mean, own - by);
            }
            if (verb == Law.FROM && Math.abs(own - mean) < by) {
                return own >= mean ? Math.min(LONGEST, mean + by) : Math.max(0, mean - by);
            }
            return own;
        }

        /** Truths lie in bits, the latest lowest; without an ANY the first one holds. */
        private boolean holds(int[] code, int first, int behind) {
            int truths = 1;
            for (int i = first; i < behind; i++) {
                int step = code[i];
                int latest = truths & 1;
                if (step == Law.NOT) {
                    truths ^= 1;
                } else if (step == Law.AND) {
                    truths = truths >>> 1 & (latest | ~1);
                } else if (step == Law.OR) {
                    truths = truths >>> 1 | latest;
                } else {
                    int word = Math.min(Law.wordOf(step), answers.length - 1);
                    truths = truths << 1 | (Law.compares(step, answers[word]) ? 1 : 0);
                }
            }
            return (truths & 1) == 1;
        }
    }

    /** All that an IMAGE keeps; HOUSES and MONEY of now stand in the row of this SEASON. */
    static final class World {
        final People people;
        final Past past;
        final Reckoner reckoner;
        int price;
        int seam;
        int over;
        long z;
        int season;
        int foretold;
        final int[] foretoldSeasons;
        final int[] foretoldLines;
        final int[] linesThen;

        World(int rows) {
            people = new People();
            past = new Past(rows);
            reckoner = new Reckoner(people, past);
            price = 0;
            seam = 0;
            over = 0;
            z = 1;
            season = 0;
            foretold = 0;
            foretoldSeasons = new int[MOST_FORETOLD];
            foretoldLines = new int[MOST_FORETOLD];
            linesThen = new int[MOST_FORETOLD];
        }

        void copyOf(World other) {
            people.copyOf(other.people);
            past.copyOf(other.past, other.season + 1);
            price = other.price;
            seam = other.seam;
            over = other.over;
            z = other.z;
            season = other.season;
            foretold = other.foretold;
            System.arraycopy(other.foretoldSeasons, 0, foretoldSeasons, 0, foretold);
            System.arraycopy(other.foretoldLines, 0, foretoldLines, 0, foretold);
            System.arraycopy(other.linesThen, 0, linesThen, 0, foretold);
        }

        boolean hasSeason(int told) {
            return within(told, 0, season);
        }

        int lineAt(int told) {
            return people.size > 0 ? past.sums[told] * 100 / people.size : NONE;
        }

        int lineOf(int street) {
            int sum = 0;
            for (int p = 0; p < people.size; p++) {
                if ((street >> p & 1) != 0) {
                    sum += past.lengthOf(p, season);
                }
            }
            int size = Integer.bitCount(street);
            return size > 0 ? sum * 100 / size : NONE;
        }

        int keepForetold(int told, int line, int lineThen) {
            if (foretold >= MOST_FORETOLD) {
                return NONE;
            }
            foretoldSeasons[foretold] = told;
            foretoldLines[foretold] = line;
            linesThen[foretold] = lineThen;
            foretold++;
            return foretold - 1;
        }

        int wishNow(Law law, int person) {
            if (law == null) {
                return NONE;
            }
            return reckoner.wishOf(law, person, season + 1, people.coin[person], people.worn[person], 0);
        }

        void pass(Law law) {
            if (season + 1 >= past.rows) {
                return;
            }
            past.carryOn(season);
            season++;
            int sum = 0;
            for (int p = 0; p < people.size; p++) {
                int now = dress(law, p);
                past.lengths[season * MOST_PEOPLE + p] = now;
                sum += now;
            }
            past.sums[season] = sum;
        }

        private int dress(Law law, int p) {
            z = z * 6364136223846793005L + 1442695040888963407L;
            int chance = (int) ((z >>> 33) % 100);
            people.coin[p] = Math.min(MOST_COIN, people.coin[p] + people.purse[p]);
            past.noteAsked(p, season, people.coin[p], people.worn[p], chance);
            int own = past.lengthOf(p, season - 1);
            int wish = reckoner.wishOf(law, p, season, people.coin[p], people.worn[p], chance);
            if (wish == own) {
                people.tell(p, 12);
            } else {
                people.tell(p, reckoner.verb == Law.TO ? 10 : 11);
                if (pays(p, Math.abs(wish - own) <= seam)) {
                    people.worn[p] = 0;
                    return wish;
                }
            }
            people.worn[p]++;
            return own;
        }

        private boolean pays(int p, boolean bySeam) {
            int cost = bySeam ? over : price;
            if (people.coin[p] < cost) {
                people.tell(p, 13);
                return false;
            }
            people.coin[p] -= cost;
            people.tell(p, bySeam ? 14 : 15);
            return true;
        }
    }

    /** TRIALS: their rows stay behind now until the next ones are written over them. */
    static final class Trials {
        private final World world;
        private final People kept;

        Trials(World world) {
            this.world = world;
            kept = new People();
        }

        /** With MONEY told (or NONE) in turns of so many SEASONS. */
        void rehearse(Law law, int n, int every, int told) {
            kept.copyOf(world.people);
            long z = world.z;
            int season = world.season;
            int money = world.past.moneys[season];
            for (int t = 0; t < n; t++) {
                boolean push = told != NONE && every > 0 && t / every % 2 == 0;
                world.past.moneys[world.season] = push ? told : money;
                world.pass(law);
            }
            world.past.moneys[season] = money;
            world.season = season;
            world.z = z;
            world.people.copyOf(kept);
        }

        int roundIn(int n, int apart, int what) {
            for (int t = 1; t <= n; t++) {
                int earlier = sameBefore(t, apart);
                if (earlier != NONE) {
                    return what == 0 ? t : t - earlier;
                }
            }
            return NONE;
        }

        private int sameBefore(int t, int apart) {
            int step = Math.max(1, apart);
            for (int u = t - step; u >= 0; u -= step) {
                if (world.past.sameLengths(world.season + u, world.season + t, world.people.size)) {
                    return u;
                }
            }
            return NONE;
        }
    }

    /** What the RECORDED SEASONS tell of PEOPLE and of the LINE. */
    static final class Chronicle {
        private static final int READ_SEASONS = 20;
        private static final int TAKEN = 1;
        private static final int LEFT = 2;

        private final World world;

        Chronicle(World world) {
            this.world = world;
        }

        int changesOf(int person, int what) {
            int changes = 0;
            for (int s = 1; s <= world.season; s++) {
                int before = world.past.lengthOf(person, s - 1);
                int now = world.past.lengthOf(person, s);
                if (now != before && (what == 3 || isLed(person, s, what))) {
                    changes++;
                }
            }
            return changes;
        }

        /** What 0 and 2 ask for nearer, 1 (below) for further. */
        private boolean isLed(int person, int season, int what) {
            world.reckoner.look(person, season - 1);
            int mean = world.reckoner.means[what];
            if (mean == NONE) {
                return false;
            }
            int before = Math.abs(world.past.lengthOf(person, season - 1) - mean);
            int now = Math.abs(world.past.lengthOf(person, season) - mean);
            return what == 1 ? now > before : now < before;
        }

        int startsOf(int gap, int n, int what) {
            int starts = 0;
            for (int p = 0; p < world.people.size; p++) {
                boolean before = isAlone(p, 0, gap);
                for (int s = 1; s <= world.season; s++) {
                    boolean now = isAlone(p, s, gap);
                    if (now && !before && (what == 0 || endOf(p, s, gap, n) == what)) {
                        starts++;
                    }
                    before = now;
                }
            }
            return starts;
        }

        private int endOf(int person, int start, int gap, int n) {
            int last = Math.min(world.season, start + n);
            int own = world.past.lengthOf(person, start);
            for (int s = start + 1; s <= last; s++) {
                if (world.past.lengthOf(person, s) != own) {
                    return LEFT;
                }
                if (!isAlone(person, s, gap)) {
                    return TAKEN;
                }
            }
            return NONE;
        }

        private boolean isAlone(int person, int season, int gap) {
            int own = world.past.lengthOf(person, season);
            for (int p = 0; p < world.people.size; p++) {
                if (p != person && Math.abs(world.past.lengthOf(p, season) - own) < gap) {
                    return false;
                }
            }
            return true;
        }

        int mostLike(int n) {
            int found = NONE;
            int least = 0;
            for (int s = n - 1; s < world.season; s++) {
                int off = 0;
                for (int i = 0; i < n; i++) {
                    off += Math.abs(world.lineAt(s - i) - world.lineAt(world.season - i));
                }
                if (found == NONE || off <= least) {
                    found = s;
                    least = off;
                }
            }
            return found;
        }

        int visitsOf(int length, int what) {
            int visits = 0;
            int rows = 0;
            int longest = 0;
            int latest = NONE;
            for (int s = 0; s <= world.season; s++) {
                if (Math.abs(world.lineAt(s) - 100 * length) < 100) {
                    visits++;
                    if (latest == NONE || latest < s - 1) {
                        rows++;
                        longest = latest == NONE ? 0 : Math.max(longest, s - 1 - latest);
                    }
                    latest = s;
                }
            }
            return what == 0 ? visits : what == 1 ? rows : longest;
        }

        int farFromLine(int purse, boolean others, boolean howMany) {
            int sum = 0;
            int count = 0;
            int now = world.lineAt(world.season);
            for (int p = 0; p < world.people.size; p++) {
                boolean isOther = world.people.purse[p] > purse;
                if (isOther == others) {
                    sum += Math.abs(100 * world.past.lengthOf(p, world.season) - now);
                    count++;
                }
            }
            return howMany ? count : sum;
        }

        /** READ of a LAW. */
        int offOf(Law law) {
            if (law == null) {
                return NONE;
            }
            int off = 0;
            for (int s = Math.max(1, world.season - READ_SEASONS + 1); s <= world.season; s++) {
                for (int p = 0; p < world.people.size; p++) {
                    Past past = world.past;
                    int wish = world.reckoner.wishOf(law, p, s,
                        past.coinAsked(p, s), past.wornAsked(p, s), past.chanceAsked(p, s));
                    off += Math.abs(wish - past.lengthOf(p, s));
                }
            }
            return off;
        }
    }

    /** What the LINE goes by: HOUSES that are FOLLOWED, with their LUCK, and CLAIMS that it goes with MONEY. */
    static final class Signs {
        static final int LAST_LAG = 9;
        private static final int LUCK_SEASONS = 12;
        private static final int MOST_COUPLES = 40;

        private final World world;
        /** How many ways of choosing have so many FOLLOWED ones. */
        private final long[] ways;
        int couples;
        int hits;

        Signs(World world) {
            this.world = world;
            ways = new long[LUCK_SEASONS + 1];
            couples = 0;
            hits = 0;
        }

        int shownSeasons(int house) {
            int seasons = 0;
            for (int s = 0; s < world.season; s++) {
                if (isShown(house, s)) {
                    seasons++;
                }
            }
            return seasons;
        }

        int followedSeasons(int house) {
            int seasons = 0;
            for (int s = 0; s < world.season; s++) {
                if (isFollowed(house, s)) {
                    seasons++;
                }
            }
            return seasons;
        }

        long waysOf(int house, boolean all) {
            Arrays.fill(ways, 0);
            ways[0] = 1;
            int seasons = 0;
            int hits = 0;
            for (int s = world.season - 1; s >= 0 && seasons < LUCK_SEASONS; s--) {
                if (isShown(house, s)) {
                    seasons++;
                    hits += isFollowed(house, s) ? 1 : 0;
                    chooseIn(s);
                }
            }
            long sum = 0;
            for (int i = all ? 0 : hits; i <= LUCK_SEASONS; i++) {
                sum += ways[i];
            }
            return sum;
        }

        private void chooseIn(int season) {
            int good = 0;
            int bad = 0;
            for (int h = 0; h < HOUSES; h++) {
                if (isFollowed(h, season)) {
                    good++;
                } else if (isShown(h, season)) {
                    bad++;
                }
            }
            for (int i = LUCK_SEASONS; i > 0; i--) {
                ways[i] = ways[i] * bad + ways[i - 1] * good;
            }
            ways[0] *= bad;
        }

        private boolean isShown(int house, int season) {
            return world.past.shownBy(house, season) != NONE;
        }

        private boolean isFollowed(int house, int season) {
            int aim = 100 * world.past.shownBy(house, season);
            return isShown(house, season)
                && Math.abs(world.lineAt(season + 1) - aim) < Math.abs(world.lineAt(season) - aim);
        }

        void gather(int lag) {
            couples = 0;
            hits = 0;
            int[] moneys = world.past.moneys;
            for (int s = world.season; s > lag && couples < MOST_COUPLES; s--) {
                int money = Integer.compare(moneys[s - lag], moneys[s - lag - 1]);
                int hem = Integer.compare(world.lineAt(s), world.lineAt(s - 1));
                if (money != 0 && hem != 0) {
                    couples++;
                    hits += money == hem ? 1 : 0;
                }
            }
        }

        /** Sums the ways to have so many yes, from all yes down to the HITS. */
        long odds() {
            long sum = 0;
            long ways = 1;
            for (int yes = couples; yes >= hits; yes--) {
                sum += ways;
                ways = ways * yes / (couples - yes + 1);
            }
            return sum;
        }

        int bestLag() {
            int best = NONE;
            long least = 0;
            for (int lag = 0; lag <= LAST_LAG; lag++) {
                gather(lag);
                if (couples > 0) {
                    // of rows of 40, whatever the couples: so all lags are measured alike
                    long share = odds() << MOST_COUPLES - couples;
                    if (best == NONE || share < least) {
                        best = lag;
                        least = share;
                    }
                }
            }
            return best;
        }
    }

    /** PLATES of PAPERS. */
    static final class Plates {
        private static final int MOST = 60;

        private final World world;
        int size;
        private final int[] papers;
        private final int[] seasons;
        private final int[] lengths;

        Plates(World world) {
            this.world = world;
            size = 0;
            papers = new int[MOST];
            seasons = new int[MOST];
            lengths = new int[MOST];
        }

        int add(int paper, int season, int length) {
            if (size >= MOST) {
                return NONE;
            }
            papers[size] = paper;
            seasons[size] = season;
            lengths[size] = length;
            size++;
            return size;
        }

        int offOf(int paper, int what) {
            int sum = 0;
            int count = 0;
            int worn = 0;
            for (int i = 0; i < size; i++) {
                if (papers[i] == paper && world.hasSeason(seasons[i])) {
                    sum += Math.abs(100 * lengths[i] - world.lineAt(seasons[i]));
                    count++;
                    worn += isWithinWorn(lengths[i], seasons[i]) ? 1 : 0;
                }
            }
            return what == 0 ? sum : what == 1 ? count : worn;
        }

        private boolean isWithinWorn(int length, int season) {
            int least = LONGEST;
            int greatest = 0;
            for (int p = 0; p < world.people.size; p++) {
                int worn = world.past.lengthOf(p, season);
                least = Math.min(least, worn);
                greatest = Math.max(greatest, worn);
            }
            return within(length, least, greatest);
        }
    }

    /** What a SHOP should order. */
    static final class Shelf {
        static final int MOST = 6;
        private static final int LENGTHS = LONGEST + 1;
        /** More than all can be off together: no such row of LENGTHS. */
        private static final int NO_ROW = 1 << 20;

        private final World world;
        /** Of all wishes up to a LENGTH: how many, and their sum. */
        private final int[] counts;
        private final int[] sums;
        /** Of so many more LENGTHS behind one: how far the wishes above it are off at the least. */
        private final int[] leasts;
        final int[] chosen;
        int off;

        Shelf(World world) {
            this.world = world;
            counts = new int[LENGTHS];
            sums = new int[LENGTHS];
            leasts = new int[MOST * LENGTHS];
            chosen = new int[MOST];
            off = 0;
        }

        void order(int k) {
            for (int more = 0; more < k; more++) {
                for (int a = 0; a <= LONGEST; a++) {
                    leasts[more * LENGTHS + a] = more == 0 ? beyond(a) : leastBehind(a, more);
                }
            }
            int row = leastFrom(NONE, k - 1);
            off = upTo(row) + leasts[(k - 1) * LENGTHS + row];
            chosen[0] = row;
            for (int i = 1; i < k; i++) {
                row = leastFrom(row, k - 1 - i);
                chosen[i] = row;
            }
        }

        void gatherWishes(Law law) {
            Arrays.fill(counts, 0);
            for (int p = 0; p < world.people.size; p++) {
                int wish = world.wishNow(law, p);
                if (within(wish, 0, LONGEST)) {
                    counts[wish]++;
                }
            }
            sums[0] = 0;
            for (int i = 1; i <= LONGEST; i++) {
                sums[i] = sums[i - 1] + i * counts[i];
                counts[i] += counts[i - 1];
            }
        }

        private int leastBehind(int a, int more) {
            int least = NO_ROW;
            for (int b = a + 1; b <= LONGEST; b++) {
                least = Math.min(least, between(a, b) + leasts[(more - 1) * LENGTHS + b]);
            }
            return least;
        }

        /** The lowest next LENGTH behind one (or the first, behind NONE) that is least off. */
        private int leastFrom(int a, int more) {
            int best = LONGEST;
            int least = NO_ROW;
            for (int b = a + 1; b <= LONGEST; b++) {
                int gap = a == NONE ? upTo(b) : between(a, b);
                int sum = gap + leasts[more * LENGTHS + b];
                if (sum < least) {
                    least = sum;
                    best = b;
                }
            }
            return best;
        }

        private int upTo(int a) {
            return a * counts[a] - sums[a];
        }

        private int beyond(int a) {
            return sums[LONGEST] - sums[a] - a * (counts[LONGEST] - counts[a]);
        }

        private int between(int a, int b) {
            int middle = (a + b) / 2;
            int lower = sums[middle] - sums[a] - a * (counts[middle] - counts[a]);
            int upper = b * (counts[b] - counts[middle]) - (sums[b] - sums[middle]);
            return lower + upper;
        }
    }
}
