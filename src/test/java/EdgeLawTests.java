/** The bounds that promises 8 to 11 and the grammar of LAWS name, each sentence in a test of its own. */
public final class EdgeLawTests {
    private static final int LOW = Integer.MIN_VALUE;
    private static final int HIGH = Integer.MAX_VALUE;

    public static void main(String[] args) {
        Edge edge = new Edge();
        feed(edge);
        law(edge);
        counts(edge);
        numbers(edge);
        tokens(edge);
        faultPlaces(edge);
        nested(edge);
        meanings(edge);
        force(edge);
        fault(edge);
        edge.end();
    }

    /** The LAW's number, or behind a FAULT -100 less its place. */
    private static int told(String text) {
        HemLine x = new HemLine();
        int law = Checks.tell(x, text);
        return law == -1 ? -100 - x.fault() : law;
    }

    private static void taken(Checks c, String... texts) {
        for (String text : texts) c.is(text, told(text), 0);
    }

    private static void refused(Checks c, int place, String text) {
        c.is(text, told(text), -100 - place);
    }

    /** Each prefix of a text that ends ahead of a place has its FAULT at its own end. */
    private static void moreMustCome(Checks c, String... texts) {
        for (String text : texts) refused(c, text.length(), text);
    }

    private static void feed(Edge edge) {
        edge.of("8 of each number the highest first", c -> {
            HemLine x = new HemLine();
            x.feed(0x73_74_61_79, 0x20_69_66_20, 0x6C_65_6E_67, 0x74_68_20_3C, 0x20_35_30_3B);
            c.is("stay if length < 50;", x.law(20), 0);
            c.is("count(4)", x.count(4), 1);
            for (int at = 0; at < 20; at++) {
                // one wrong byte at each place of five "stay"
                HemLine y = new HemLine();
                int[] v = {0x73746179, 0x3B737461, 0x793B7374, 0x61793B73, 0x7461793B};
                v[at / 4] = v[at / 4] & ~(255 << 24 - at % 4 * 8) | 1 << 24 - at % 4 * 8;
                y.feed(v[0], v[1], v[2], v[3], v[4]);
                c.is("law(20)", y.law(20), -1);
                c.is("a wrong byte at " + at, y.fault(), at % 5 == 4 ? at : at % 5 == 0 ? at : at - at % 5);
            }
        });
        edge.of("8 numbers below 0 are four bytes as well", c -> {
            HemLine x = new HemLine();
            x.feed(0x73746179, 0x3B202020, 0x20202020, 0x20202020, 0x202020FF);
            c.is("byte 255 at the end", x.law(20), -1);
            c.is("fault()", x.fault(), 19);
            x.feed(0x8A8A8A8A, LOW, HIGH, -1, 0);
            c.is("byte 138 isn't byte 10", x.law(20), -1);
            c.is("fault()", x.fault(), 0);
        });
        edge.of("8 how many there are", c -> {
            HemLine x = new HemLine();
            for (int i = 1; i <= 35; i++) {
                c.is("feed " + i, x.feed(i, i, i, i, i), 20 * i);
                c.is("count(8)", x.count(8), 20 * i);
            }
        });
        edge.of("8 NONE: there would be more than 700", c -> {
            HemLine x = new HemLine();
            for (int i = 1; i <= 34; i++) x.feed(0, 0, 0, 0, 0);
            c.is("the 35th", x.feed(0, 0, 0, 0, 0), 700);
            c.is("the 36th", x.feed(0, 0, 0, 0, 0), -1);
            c.is("the 37th", x.feed(0, 0, 0, 0, 0), -1);
            c.is("count(8)", x.count(8), 700);
        });
        edge.of("8 doing nothing: there would be more than 700", c -> {
            HemLine x = EdgePeopleTests.town();
            HemLine twin = EdgePeopleTests.town();
            for (HemLine y : new HemLine[] {x, twin}) Checks.feed(y, "stay;" + " ".repeat(690) + "stay;");
            c.is("feed", x.feed(-1, -1, -1, -1, -1), -1);
            c.untouched("feed", x, twin);
            c.is("law(700)", x.law(700), 1);
            c.is("count(4)", x.count(4), 2);
        });
        edge.of("8 behind those on the tape", c -> {
            HemLine x = new HemLine();
            Checks.feed(x, "stay;stay;stay;stay;");
            Checks.feed(x, "stay;stay;stay;stay;");
            Checks.feed(x, "stay;stay;x");
            c.is("law(51)", x.law(51), -1);
            c.is("fault()", x.fault(), 50);
            Checks.feed(x, "stay;");
            c.is("an empty tape begins anew", x.count(8), 20);
            c.is("law(5)", x.law(5), 0);
            c.is("count(4)", x.count(4), 1);
        });
    }

    private static void law(Edge edge) {
        edge.of("9 the first n bytes of the tape", c -> {
            for (int n = 0; n <= 20; n++) {
                HemLine x = new HemLine();
                Checks.feed(x, "stay;stay;stay;stay;");
                c.is("law(" + n + ")", x.law(n), n % 5 == 0 ? 0 : -1);
                c.is("fault() of " + n, x.fault(), n % 5 == 0 ? -1 : n % 5 == 4 ? n : n - n % 5);
                c.is("count(4) of " + n, x.count(4), n % 5 == 0 ? n / 5 : 0);
            }
        });
        edge.of("9 which is empty then", c -> {
            HemLine x = new HemLine();
            Checks.feed(x, "stay;stay;stay;stay;");
            x.law(5);
            c.is("count(8)", x.count(8), 0);
            c.is("law(1)", x.law(1), -2);
            c.is("law(0) behind it", x.law(0), 1);
            Checks.feed(x, "stay;");
            x.law(0);
            c.is("count(8) behind law(0)", x.count(8), 0);
        });
        edge.of("9 which is empty then, with a FAULT, too", c -> {
            HemLine x = new HemLine();
            Checks.feed(x, "stay;");
            c.is("law(4)", x.law(4), -1);
            c.is("count(8)", x.count(8), 0);
            c.is("law(5)", x.law(5), -2);
        });
        edge.of("9 its number; it's in force", c -> {
            HemLine x = new HemLine();
            for (int i = 0; i < 5; i++) {
                c.is("law " + i, Checks.tell(x, Checks.times("stay;", i + 1)), i);
                c.is("count(2)", x.count(2), i + 1);
                c.is("count(3)", x.count(3), i);
                c.is("count(4)", x.count(4), i + 1);
            }
        });
        edge.of("9 NONE: a FAULT is no LAW and not in force", c -> {
            HemLine x = new HemLine();
            c.is("a FAULT", Checks.tell(x, "stay"), -1);
            c.is("count(2)", x.count(2), 0);
            c.is("count(3)", x.count(3), -1);
            Checks.tell(x, "stay;");
            Checks.tell(x, "stay;stay;");
            x.force(0);
            c.is("a FAULT", Checks.tell(x, "stay;stay;stay"), -1);
            c.is("count(2)", x.count(2), 2);
            c.is("count(3)", x.count(3), 0);
            c.is("count(4)", x.count(4), 1);
            c.is("the next one's number", Checks.tell(x, "stay;"), 2);
        });
        edge.of("9 -2: n is below 0", c -> {
            HemLine x = new HemLine();
            Checks.feed(x, "stay;");
            c.is("law(-1)", x.law(-1), -2);
            c.is("law(LOW)", x.law(LOW), -2);
            c.is("law(0)", x.law(0), 0);
        });
        edge.of("9 -2: n is more than there are", c -> {
            HemLine x = new HemLine();
            c.is("law(1) of 0", x.law(1), -2);
            Checks.feed(x, "stay;               ");
            c.is("law(21) of 20", x.law(21), -2);
            c.is("law(HIGH)", x.law(HIGH), -2);
            c.is("law(20) of 20", x.law(20), 0);
            Checks.feed(x, " ".repeat(700));
            c.is("law(701) of 700", x.law(701), -2);
            c.is("law(700) of 700", x.law(700), 1);
        });
        edge.of("9 -2 does nothing", c -> {
            HemLine x = EdgePeopleTests.town();
            HemLine twin = EdgePeopleTests.town();
            for (HemLine y : new HemLine[] {x, twin}) Checks.tell(y, "to");
            for (HemLine y : new HemLine[] {x, twin}) Checks.feed(y, "stay;");
            for (int n : new int[] {-1, 21, 700, LOW, HIGH}) c.is("law(" + n + ")", x.law(n), -2);
            c.untouched("law", x, twin);
            c.is("law(5)", x.law(5), 1);
        });
        edge.of("9 -3: 5 are there", c -> {
            HemLine x = new HemLine();
            for (int i = 0; i < 4; i++) Checks.tell(x, "stay;");
            c.is("the fifth", Checks.tell(x, "stay;"), 4);
            c.is("law(0)", x.law(0), -3);
            c.is("the sixth", Checks.tell(x, "stay;"), -3);
            c.is("the sixth with a FAULT", x.law(4), -3);
            c.is("count(2)", x.count(2), 5);
        });
        edge.of("9 -3 does nothing", c -> {
            HemLine x = EdgePeopleTests.town();
            HemLine twin = EdgePeopleTests.town();
            for (HemLine y : new HemLine[] {x, twin}) {
                for (int i = 1; i < 5; i++) Checks.tell(y, "stay;to below " + i + ";");
                y.force(2);
                Checks.feed(y, "stay;stay");
            }
            for (int n : new int[] {0, 5, 9, 20}) c.is("law(" + n + ")", x.law(n), -3);
            c.untouched("law", x, twin);
            c.is("count(8)", x.count(8), 20);
        });
        edge.of("9 -2 with 5 there, too", c -> {
            HemLine x = new HemLine();
            for (int i = 0; i < 5; i++) x.law(0);
            c.is("law(-1)", x.law(-1), -2);
            c.is("law(1)", x.law(1), -2);
        });
        edge.of("9 five LAWS and FAULTS in between", c -> {
            HemLine x = new HemLine();
            for (int i = 0; i < 5; i++) {
                for (int j = 0; j < 3; j++) c.is("a FAULT", Checks.tell(x, "to"), -1);
                c.is("a LAW", Checks.tell(x, "stay;"), i);
            }
            c.is("a FAULT isn't looked for any more", Checks.tell(x, "to"), -3);
            c.is("fault()", x.fault(), -1);
        });
    }

    private static void counts(Edge edge) {
        edge.of("LAWS: no RULE at all", c -> {
            taken(c, "", " ", "\n", " \n \n ");
            HemLine x = new HemLine();
            x.law(0);
            c.is("count(4)", x.count(4), 0);
            x.person(1, 1, 33);
            x.run(1);
            c.is("its own", x.wears(0, 2), 33);
            c.is("by its own will", x.wears(0, 12), 1);
        });
        edge.of("LAWS: at most 16 RULES", c -> {
            for (int rules = 1; rules <= 16; rules++) {
                HemLine x = new HemLine();
                c.is(rules + " RULES", Checks.tell(x, Checks.times("stay;", rules)), 0);
                c.is("count(4)", x.count(4), rules);
            }
            refused(c, 80, Checks.times("stay;", 17));
        });
        edge.of("LAWS: the 16th RULE counts as the others", c -> {
            HemLine x = new HemLine();
            x.person(1, 1, 33);
            x.shows(0, 60);
            c.is("law", Checks.tell(x, Checks.times("stay if season=9;", 15) + "to house 0 4;"), 0);
            x.run(1);
            c.is("length(0, 1)", x.length(0, 1), 37);
        });
        edge.of("LAWS: a text of 700 bytes", c -> {
            String rule = "to above 5 if all<9999 and(not below>0);";
            String text = " ".repeat(700 - 16 * rule.length()) + Checks.times(rule, 16);
            HemLine x = new HemLine();
            c.is("700 bytes", Checks.tell(x, text), 0);
            c.is("count(4)", x.count(4), 16);
            String most = "stay if " + "all=0 or ".repeat(76) + "all=10 ;";
            c.is("its length", most.length(), 700);
            taken(c, most);
            refused(c, 699, most.substring(0, 699) + "!");
            moreMustCome(c, most.substring(0, 699) + " ");
        });
    }

    private static void numbers(Edge edge) {
        edge.of("BY: 0 to 60", c -> {
            for (String aim : new String[] {"to above ", "from above ", "to all ", "from alike ", "to below ", "to house 0 ", "from house 3 ", "to old 1 "}) {
                taken(c, aim + "0;", aim + "1;", aim + "59;", aim + "60;");
                for (String by : new String[] {"61", "99", "100", "9999"}) refused(c, aim.length(), aim + by + ";");
            }
        });
        edge.of("HOUSE: 0 to 3", c -> {
            for (String aim : new String[] {"to house ", "from house "}) {
                for (int h = 0; h < 4; h++) taken(c, aim + h + " 5;");
                for (String h : new String[] {"4", "5", "9", "10", "60", "9999"}) refused(c, aim.length(), aim + h + " 5;");
            }
        });
        edge.of("SEASONS: 1 to 99", c -> {
            for (String aim : new String[] {"to old ", "from old "}) {
                taken(c, aim + "1 5;", aim + "2 5;", aim + "98 5;", aim + "99 5;");
                for (String n : new String[] {"0", "100", "101", "9999"}) refused(c, aim.length(), aim + n + " 5;");
            }
        });
        edge.of("NUMBER: 0 to 9,999", c -> {
            for (String sign : new String[] {"<", ">", "="}) {
                String ask = "stay if coin" + sign;
                taken(c, ask + "0;", ask + "1;", ask + "9998;", ask + "9999;");
                for (String n : new String[] {"10000", "10001", "99999", "4294967296"}) refused(c, ask.length(), ask + n + ";");
            }
        });
        edge.of("each of one to four digits", c -> {
            taken(c, "to above 0000;", "to above 0060;", "to above 060;", "to above 007;", "to house 0003 5;", "to house 00 5;",
                "to old 0001 5;", "to old 099 5;", "stay if all=0000;", "stay if all=0001;", "stay if all=01;");
            refused(c, 9, "to above 00000;");
            refused(c, 9, "to above 00060;");
            refused(c, 9, "to house 00003 5;");
            refused(c, 7, "to old 00001 5;");
            refused(c, 12, "stay if all=00000;");
            refused(c, 12, "stay if all=00001;");
            refused(c, 9, "to above 0061;");
            refused(c, 9, "to house 0004 5;");
            refused(c, 7, "to old 0000 5;");
            refused(c, 7, "to old 0100 5;");
        });
        edge.of("digits tell what they say", c -> {
            for (String[] one : new String[][] {{"0012", "12"}, {"0007", "7"}, {"60", "60"}, {"010", "10"}}) {
                HemLine x = new HemLine();
                x.person(1, 1, 0);
                x.shows(0, 60);
                Checks.tell(x, "to house 0 " + one[0] + ";");
                x.run(1);
                c.is("BY " + one[0], x.wears(0, 2), Integer.parseInt(one[1]));
            }
        });
        edge.of("a number that isn't so: where it begins, at the text's end, too", c -> {
            refused(c, 9, "to above 61");
            refused(c, 9, "to house 4");
            refused(c, 7, "to old 0");
            refused(c, 7, "to old 100");
            refused(c, 13, "stay if coin<10000");
            refused(c, 9, "to above 99999 if");
        });
    }

    private static void tokens(Edge edge) {
        edge.of("words of letters a to z", c -> {
            refused(c, 4, "stay`;");
            refused(c, 4, "stay{;");
            refused(c, 0, "`stay;");
            refused(c, 0, "{stay;");
            refused(c, 0, "Stay;");
            refused(c, 0, "staY;");
            refused(c, 0, "stayz;");
            refused(c, 0, "staya;");
            refused(c, 0, "zstay;");
            refused(c, 0, "ptay;");
            refused(c, 0, "staz;");
            refused(c, 2, "to@above 5;");
            refused(c, 2, "to[above 5;");
        });
        edge.of("a word cut off by another byte is the shorter one", c -> {
            refused(c, 0, "staYx;");
            refused(c, 8, "stay if coiN<5;");
            refused(c, 12, "stay if coin_<5;");
            refused(c, 2, "to\u00e9above 5;");
        });
        edge.of("digits 0 to 9", c -> {
            refused(c, 10, "to above 5/;");
            refused(c, 10, "to above 5:;");
            refused(c, 9, "to above /5;");
            refused(c, 9, "to above :5;");
            taken(c, "stay if coin=1234;", "stay if coin=5678;", "stay if coin=90;");
        });
        edge.of("signs: each one by itself", c -> {
            taken(c, "stay if((coin<5));", "stay if(coin=5)or(coin>5);stay;");
            refused(c, 13, "stay if coin<=5;");
            refused(c, 13, "stay if coin<>5;");
            refused(c, 13, "stay if coin==5;");
            refused(c, 5, "stay;;");
            for (char sign : ",.:-+*!#/?&|'\"".toCharArray()) refused(c, 12, "stay if coin" + sign + "5;");
        });
        edge.of("tokens as long as they go", c -> {
            refused(c, 0, "toabove 5;");
            refused(c, 0, "stayif coin<5;");
            refused(c, 3, "to abovebelow 5;");
            refused(c, 8, "stay if notcoin<5;");
            refused(c, 11, "to house 0 500;");
            refused(c, 9, "to house 05050;");
            refused(c, 15, "stay if coin<5 orcoin<6;");
            refused(c, 5, "stay;sta");
            refused(c, 0, "stayy;");
        });
        edge.of("no blanks are needed where a token ends by itself", c -> {
            taken(c, "to above 5if coin<5and not(purse>1)or rank=2;stay;", "stay if(coin<5);", "to house 0 5if(all=1)and(all=1);stay;",
                "stay if not(not all=5or all=6);");
            c.is("letters, then digits", told("to above5;"), 0);
            c.is("letters, then digits", told("to house0 5;"), 0);
            c.is("letters, then digits", told("to old1 5;"), 0);
        });
        edge.of("between them blanks: bytes 32 and 10", c -> {
            taken(c, "to\nabove\n5\n;", "  to   above  5  ;  ", "\n\nstay\n\nif\n\ncoin\n<\n5\n\n;\n\n", "\nstay;", "stay; ", "stay ;");
            for (int b = 0; b < 256; b++) {
                boolean blank = b == 32 || b == 10;
                boolean begins = b == ';' || b >= 'a' && b <= 'z';
                if (!begins) c.is("stay, byte " + b, told("stay" + (char) b + ";"), blank ? 0 : -104);
            }
        });
        edge.of("a byte that begins no token", c -> {
            for (int b = 0; b < 256; b++) {
                if (b != 32 && b != 10) c.is("byte " + b + " ahead of a RULE", told("stay; " + (char) b), -106);
            }
        });
        edge.of("blanks end words and numbers", c -> {
            refused(c, 0, "st ay;");
            refused(c, 0, "t o above 5;");
            refused(c, 11, "to above 1 0;");
            refused(c, 11, "to above 1\n0;");
        });
        edge.of("every word and no other", c -> {
            for (String word : new String[] {"season", "length", "purse", "coin", "rank", "money", "chance", "worn", "above", "below", "alike", "all"}) {
                taken(c, "stay if " + word + "<5;");
                refused(c, 8, "stay if " + word + "s<5;");
                refused(c, 8, "stay if " + word.substring(0, word.length() - 1) + "<5;");
                refused(c, 8, "stay if x" + word + "<5;");
            }
            for (String word : new String[] {"house", "old", "to", "from", "stay", "if", "and", "or", "seasonx", "z"}) refused(c, 8, "stay if " + word + "<5;");
            for (String whom : new String[] {"above", "below", "alike", "all"}) taken(c, "to " + whom + " 5;", "from " + whom + " 5;");
            for (String whom : new String[] {"season", "worn", "chance", "to", "from", "stay", "if", "and", "or", "not", "olds", "hous"}) {
                refused(c, 3, "to " + whom + " 5;");
                refused(c, 5, "from " + whom + " 5;");
            }
        });
    }

    private static void faultPlaces(Edge edge) {
        edge.of("FAULT: no such text goes on: at a RULE's beginning", c -> {
            for (String token : new String[] {"5", ";", "if", "above", "house", "old", "and", "or", "not", "coin", "season", "(", ")", "<", "x", "?"}) {
                refused(c, 0, token);
                refused(c, 6, "stay; " + token);
                refused(c, 2, "  " + token + " above 5;");
            }
        });
        edge.of("FAULT: no such text goes on: behind the verb", c -> {
            for (String token : new String[] {"5", ";", "if", "to", "from", "stay", "coin", "length", "(", "<", "?"}) {
                refused(c, 3, "to " + token + " 5;");
                refused(c, 5, "from " + token + " 5;");
            }
            for (String token : new String[] {"5", "above", "stay", "to", "and", "or", "not", "(", ")", "=", "?"}) refused(c, 5, "stay " + token + ";");
        });
        edge.of("FAULT: no such text goes on: behind WHOM", c -> {
            for (String token : new String[] {";", "if", "above", "to", "(", "<", "?", "x"}) {
                refused(c, 9, "to above " + token);
                refused(c, 9, "to house " + token);
                refused(c, 7, "to old " + token);
                refused(c, 11, "to house 1 " + token);
                refused(c, 9, "to old 1 " + token);
            }
        });
        edge.of("FAULT: no such text goes on: behind BY", c -> {
            for (String token : new String[] {"5", "above", "to", "stay", "and", "or", "not", "(", ")", "=", "?"}) {
                refused(c, 11, "to above 5 " + token);
                refused(c, 13, "to house 1 5 " + token);
            }
        });
        edge.of("FAULT: no such text goes on: where a ONE begins", c -> {
            String[] heads = {"stay if ", "stay if coin<5 and ", "stay if coin<5 or ", "stay if not ", "stay if (", "stay if not (coin<5 or "};
            for (String head : heads) {
                for (String token : new String[] {"5", "9999", ";", "if", "and", "or", ")", "<", "house", "old", "to", "stay", "?"}) {
                    refused(c, head.length(), head + token + " coin<5;");
                }
            }
        });
        edge.of("FAULT: no such text goes on: in a comparison", c -> {
            for (String token : new String[] {"5", ";", "coin", "and", "(", ")", "if", "?"}) refused(c, 13, "stay if coin " + token + " 5;");
            for (String token : new String[] {"<", ">", "=", ";", "season", "coin", "all", "not", "(", ")", "?"}) refused(c, 14, "stay if coin<" + " " + token + ";");
        });
        edge.of("FAULT: no such text goes on: behind a comparison", c -> {
            for (String token : new String[] {"5", "coin", "not", "(", "<", "if", "to", "stay", ")", "?"}) {
                refused(c, 15, "stay if coin<5 " + token + ";");
                refused(c, 19, "stay if not coin<5 " + token + ";");
            }
            for (String token : new String[] {"5", "coin", "not", "(", "<", "if", "to", "stay", ";", "?"}) refused(c, 16, "stay if (coin<5 " + token + ";");
            for (String token : new String[] {"5", "coin", "not", "(", "<", "if", "to", "stay", ")", "?"}) refused(c, 17, "stay if (coin<5) " + token + ";");
        });
        edge.of("FAULT: the text's length, if more must come", c -> {
            moreMustCome(c, "to", "from", "stay", "to above", "to all", "to house", "to house 1", "to old", "to old 5", "to above 5", "to house 1 5",
                "stay if", "stay if not", "stay if (", "stay if not (", "stay if coin", "stay if coin<", "stay if coin<5", "stay if coin<5 and",
                "stay if coin<5 or", "stay if (coin<5", "stay if (coin<5)", "stay if not not", "stay;to", "stay;stay");
        });
        edge.of("FAULT: the text's length, blanks at its end, too", c -> {
            moreMustCome(c, "to ", "stay  ", "to above\n", "stay if coin<5 \n ", "stay if ( ", "stay; stay   ");
        });
        edge.of("FAULT: the text's length is n, not what the tape holds", c -> {
            for (int n = 15; n <= 19; n++) {
                HemLine x = new HemLine();
                Checks.feed(x, "stay if coin<12    ;stay;");
                c.is("law(" + n + ")", x.law(n), -1);
                c.is("fault()", x.fault(), n);
            }
        });
        edge.of("FAULT: the place of the first byte of the token, by bytes from 0", c -> {
            for (int blanks = 0; blanks < 40; blanks++) {
                refused(c, blanks, " ".repeat(blanks) + "above 5;");
                refused(c, blanks + 5, "stay;" + "\n".repeat(blanks) + "seasons;");
            }
        });
        edge.of("FAULT: the first of several", c -> {
            refused(c, 9, "to above 61;stay if coin<10000;x");
            refused(c, 3, "to ? ? ?");
            refused(c, 5, "stay stay stay");
        });
        edge.of("FAULT: the 17th RULE: where it begins", c -> {
            String full = Checks.times("stay;", 16);
            for (String more : new String[] {"stay;", "stay", "to above 61;", "from", "stay if ?", "x", "5", ";", "?"}) {
                refused(c, 80, full + more);
                refused(c, 83, full + " \n " + more);
            }
            taken(c, full, full + " ", full + " \n ");
            refused(c, 75, Checks.times("stay;", 15) + "x" + "stay;stay;");
            moreMustCome(c, full.substring(0, 79));
        });
    }

    private static void nested(Edge edge) {
        edge.of("not and (: at most 8 open in one another", c -> {
            for (int pattern = 0; pattern < 256; pattern++) {
                StringBuilder open = new StringBuilder("stay if ");
                int brackets = 0;
                for (int i = 0; i < 8; i++) {
                    boolean not = (pattern >> i & 1) != 0;
                    open.append(not ? "not " : "(");
                    brackets += not ? 0 : 1;
                }
                String close = ")".repeat(brackets) + ";";
                taken(c, open + "coin<5" + close);
                refused(c, open.length(), open + "(coin<5)" + close);
                refused(c, open.length(), open + "not coin<5" + close);
            }
        });
        edge.of("not and (: seven and one more in each place", c -> {
            taken(c, "stay if " + "(".repeat(7) + "not coin<5 and (coin<5) or not coin<5" + ")".repeat(7) + ";");
            taken(c, "stay if " + "not (".repeat(3) + "not not coin<5 or (not coin<5)" + ")".repeat(3) + ";");
            refused(c, 8 + 15 + 8, "stay if " + "not (".repeat(3) + "not not not coin<5" + ")".repeat(3) + ";");
        });
        edge.of("not and (: closed ones aren't open any more", c -> {
            taken(c, "stay if " + "not coin<5 and ".repeat(20) + "not coin<5;");
            taken(c, "stay if " + "(coin<5) or ".repeat(20) + "(coin<5);");
            taken(c, "stay if " + "(".repeat(8) + "all=1" + ")".repeat(8) + " and " + "not ".repeat(8) + "all=1 or " + "(".repeat(8) + "all=1" + ")".repeat(8) + ";");
            taken(c, "stay if not all=1 or " + "(".repeat(8) + "all=1" + ")".repeat(8) + ";");
            refused(c, 21 + 8, "stay if not all=1 or " + "(".repeat(9) + "all=1" + ")".repeat(9) + ";");
        });
        edge.of("not and (: each RULE begins with none open", c -> {
            String rule = "stay if " + "(".repeat(8) + "all=1" + ")".repeat(8) + ";";
            taken(c, rule + rule + rule);
        });
        edge.of("not and (: too many closed, too few closed", c -> {
            refused(c, 16, "stay if (coin<5));");
            refused(c, 14, "stay if coin<5);");
            refused(c, 16, "stay if ((coin<5;");
            refused(c, 17, "stay if ((coin<5);");
        });
    }

    private static void meanings(Edge edge) {
        edge.of("< is less than, > greater than, = the same", c -> {
            String[] words = {"season", "length", "purse", "coin", "rank", "money", "chance", "worn", "above", "below", "alike", "all"};
            int[] values = {1, 30, 7, 7, 5, 44, EdgePeopleTests.chances(1, 1)[0], 0, 30, 10, 0, 23};
            for (int i = 0; i < words.length; i++) {
                for (int n = Math.max(0, values[i] - 1); n <= values[i] + 1; n++) {
                    c.is(words[i] + "<" + n, Checks.holds(words[i] + "<" + n), values[i] < n);
                    c.is(words[i] + ">" + n, Checks.holds(words[i] + ">" + n), values[i] > n);
                    c.is(words[i] + "=" + n, Checks.holds(words[i] + "=" + n), values[i] == n);
                }
                c.is(words[i] + "<9999", Checks.holds(words[i] + "<9999"), true);
                c.is(words[i] + ">9999", Checks.holds(words[i] + ">9999"), false);
                c.is(words[i] + "<0", Checks.holds(words[i] + "<0"), false);
            }
        });
        edge.of("9,999 is a NUMBER that COIN comes to", c -> {
            HemLine x = new HemLine();
            x.person(1, 99, 10);
            x.shows(0, 60);
            Checks.tell(x, "to house 0 1 if coin=9999;to house 0 2 if coin>9998;");
            x.run(60);
            x.run(41);
            c.is("9,999 in SEASON 101", x.wears(0, 2), 11);
            Checks.tell(x, "to house 0 5 if coin<9999 or coin>9999;");
            x.run(1);
            c.is("neither less nor more", x.wears(0, 2), 11);
        });
        edge.of("ANY: ALL {or ALL}, ALL: ONE {and ONE}", c -> {
            String[] yesNo = {"rank=0", "rank=5"};
            for (int bits = 0; bits < 16; bits++) {
                String p = yesNo[bits & 1];
                String q = yesNo[bits >> 1 & 1];
                String r = yesNo[bits >> 2 & 1];
                String s = yesNo[bits >> 3];
                boolean a = (bits & 1) != 0;
                boolean b = (bits >> 1 & 1) != 0;
                boolean d = (bits >> 2 & 1) != 0;
                boolean e = bits >> 3 != 0;
                c.is("or and or " + bits, Checks.holds(p + " or " + q + " and " + r + " or " + s), a || b && d || e);
                c.is("and or and " + bits, Checks.holds(p + " and " + q + " or " + r + " and " + s), a && b || d && e);
                c.is("and (or) and " + bits, Checks.holds(p + " and (" + q + " or " + r + ") and " + s), a && (b || d) && e);
                c.is("not and not or " + bits, Checks.holds("not " + p + " and not(" + q + " or " + r + ") or " + s), !a && !(b || d) || e);
                c.is("not not and " + bits, Checks.holds("not not " + p + " and not(not " + q + " and not not not " + r + ")"), a && (b || d));
                c.is("or (and (or (and))) " + bits, Checks.holds(p + " or(" + q + " and(" + r + " or(" + s + " and rank=5)))"), a || b && (d || e));
            }
        });
        edge.of("eight open, the widest", c -> {
            String wide = "rank=0 or rank=5 and (";
            c.is("yes", Checks.holds(wide.repeat(8) + "rank=0 or rank=5 and rank=5" + ")".repeat(8)), true);
            c.is("no", Checks.holds(wide.repeat(8) + "rank=0 or rank=5 and rank=0" + ")".repeat(8)), false);
            c.is("not, eight times", Checks.holds("not ".repeat(8) + "rank=5"), true);
            c.is("not, seven times", Checks.holds("not ".repeat(7) + "rank=5"), false);
        });
    }

    private static void force(Edge edge) {
        edge.of("10 none such", c -> {
            HemLine x = new HemLine();
            c.is("force(0) of none", x.force(0), false);
            c.is("count(3)", x.count(3), -1);
            for (int i = 0; i < 4; i++) Checks.tell(x, Checks.times("stay;", i + 1));
            for (int law : new int[] {-1, 4, 5, LOW, HIGH}) c.is("force(" + law + ")", x.force(law), false);
            c.is("count(3)", x.count(3), 3);
            c.is("force(0)", x.force(0), true);
            c.is("force(-1)", x.force(-1), false);
            c.is("force(4)", x.force(4), false);
            c.is("count(3)", x.count(3), 0);
            c.is("count(4)", x.count(4), 1);
            Checks.tell(x, "stay;");
            c.is("force(5) of five", x.force(5), false);
            c.is("force(4) of five", x.force(4), true);
        });
        edge.of("10 a LAW is in force", c -> {
            HemLine x = new HemLine();
            x.person(1, 0, 0);
            x.shows(0, 60);
            for (int i = 1; i <= 5; i++) Checks.tell(x, "to house 0 " + i + ";" + Checks.times("stay;", i));
            for (int law : new int[] {0, 4, 2, 1, 3, 3}) {
                c.is("force(" + law + ")", x.force(law), true);
                c.is("count(3)", x.count(3), law);
                c.is("count(4)", x.count(4), law + 2);
                int before = x.wears(0, 2);
                c.is("wears(0, 6)", x.wears(0, 6), before + law + 1);
                x.run(1);
                c.is("wears(0, 2)", x.wears(0, 2), before + law + 1);
            }
        });
        edge.of("10 the LAW told last is in force, if no other one is told to be", c -> {
            HemLine x = new HemLine();
            Checks.tell(x, "stay;");
            Checks.tell(x, "stay;stay;");
            c.is("count(3)", x.count(3), 1);
            x.force(0);
            c.is("told to be", x.count(3), 0);
            Checks.tell(x, "stay;stay;stay;");
            c.is("told behind it", x.count(3), 2);
        });
    }

    private static void fault(Edge edge) {
        edge.of("11 NONE: it had none", c -> {
            HemLine x = new HemLine();
            c.is("without any law()", x.fault(), -1);
            Checks.tell(x, "to");
            c.is("of a FAULT", x.fault(), 2);
            x.law(0);
            c.is("of none", x.fault(), -1);
        });
        edge.of("11 of the latest law() that was a number or NONE", c -> {
            HemLine x = new HemLine();
            Checks.tell(x, "to");
            c.is("law(-1)", x.law(-1), -2);
            c.is("law(1)", x.law(1), -2);
            c.is("fault() behind -2", x.fault(), 2);
            for (int i = 0; i < 5; i++) Checks.tell(x, "stay;");
            c.is("fault()", x.fault(), -1);
            c.is("a sixth with a FAULT", Checks.tell(x, "to"), -3);
            c.is("fault() behind -3", x.fault(), -1);
        });
        edge.of("11 behind -3 the FAULT of an earlier one", c -> {
            HemLine x = new HemLine();
            for (int i = 0; i < 4; i++) Checks.tell(x, "stay;");
            Checks.tell(x, "stay;?");
            c.is("fault()", x.fault(), 5);
            Checks.feed(x, "stay;");
            c.is("law(-1)", x.law(-1), -2);
            c.is("fault() behind -2", x.fault(), 5);
            c.is("law(5)", x.law(5), 4);
            c.is("law(0)", x.law(0), -3);
            c.is("fault()", x.fault(), -1);
        });
        edge.of("11 the latest FAULT", c -> {
            HemLine x = new HemLine();
            Checks.tell(x, "to");
            Checks.tell(x, "to above ?");
            c.is("fault()", x.fault(), 9);
            x.back(0);
            x.run(1);
            c.is("fault() still", x.fault(), 9);
            Checks.tell(x, "?");
            c.is("fault() at 0", x.fault(), 0);
        });
    }
}
