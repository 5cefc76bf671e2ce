/** The bounds that the terms name of MEANS, of what a PERSON WANTS and of a SEASON, each in a test of its own. */
public final class EdgeWantTests {
    public static void main(String[] args) {
        Edge edge = new Edge();
        means(edge);
        old(edge);
        to(edge);
        from(edge);
        rules(edge);
        asked(edge);
        pays(edge);
        coins(edge);
        edge.end();
    }

    /** PERSON 0 has RANK 5 and sees all the others, told as pairs of RANK and LENGTH. */
    private static HemLine seer(int own, int... others) {
        HemLine x = new HemLine();
        x.person(5, 0, own);
        for (int i = 0; i + 1 < others.length; i += 2) {
            int p = x.person(others[i], 0, others[i + 1]);
            x.sees(0, p, true);
        }
        return x;
    }

    private static int wish(HemLine x, String law) {
        return Checks.tell(x, law) < 0 ? -9 : x.wears(0, 6);
    }

    private static void means(Edge edge) {
        edge.of("MEAN of above: a greater RANK", c -> {
            HemLine x = seer(0, 4, 1, 5, 2, 6, 30, 9, 40, 0, 5);
            c.is("6 and 9 are above 5", wish(x, "to above 60;"), 35);
            c.is("4 and 5 aren't", wish(seer(33, 4, 1, 5, 2), "to above 60;"), 33);
        });
        edge.of("MEAN of below: a lesser RANK", c -> {
            HemLine x = seer(60, 4, 1, 5, 20, 6, 30, 9, 40, 0, 4);
            c.is("4 and 0 are below 5", wish(x, "to below 60;"), 2);
            c.is("5 and 6 aren't", wish(seer(33, 5, 1, 6, 2), "to below 60;"), 33);
        });
        edge.of("MEAN of alike: the same RANK", c -> {
            HemLine x = seer(60, 4, 1, 5, 20, 6, 30, 5, 40);
            c.is("both of RANK 5", wish(x, "to alike 60;"), 30);
            c.is("4 and 6 aren't", wish(seer(33, 4, 1, 6, 2), "to alike 60;"), 33);
        });
        edge.of("MEAN of all it SEES", c -> {
            c.is("of each RANK", wish(seer(60, 4, 2, 5, 20, 6, 32), "to all 60;"), 18);
            HemLine x = seer(60, 4, 2, 5, 20, 6, 32);
            x.sees(0, 2, false);
            c.is("not whom it sees no more", wish(x, "to all 60;"), 17);
            x.person(5, 0, 59);
            c.is("nor whom it never saw", wish(x, "to all 60;"), 17);
            x.sees(1, 0, true);
            c.is("nor who sees it", wish(x, "to all 60;"), 17);
        });
        edge.of("MEAN: together by how many (cut)", c -> {
            c.is("(10 + 11) by 2", wish(seer(0, 6, 10, 6, 11), "to above 60;"), 10);
            c.is("(0 + 0 + 2) by 3", wish(seer(9, 6, 0, 6, 0, 6, 2), "to above 60;"), 0);
            c.is("(0 + 1 + 2) by 3", wish(seer(9, 6, 0, 6, 1, 6, 2), "to above 60;"), 1);
            c.is("all, not a mean of means", wish(seer(0, 6, 10, 6, 11, 4, 40), "to all 60;"), 20);
            c.is("(59 + 60) by 2", wish(seer(0, 6, 59, 4, 60), "to all 60;"), 59);
        });
        edge.of("MEAN of fifteen others", c -> {
            HemLine x = new HemLine();
            x.person(0, 0, 0);
            for (int p = 1; p < 16; p++) x.person(9, 0, 60);
            for (int p = 1; p < 16; p++) x.sees(0, p, true);
            c.is("all of them", wish(x, "to above 60;"), 60);
            x.sees(0, 15, false);
            c.is("fourteen", wish(x, "to all 60;"), 60);
        });
        edge.of("MEAN: none, if there are none; 0 is one", c -> {
            for (String whom : new String[] {"above", "below", "alike", "all"}) {
                c.is("nobody: " + whom, wish(seer(33), "to " + whom + " 60;from all 5;"), 33);
                c.is("nobody, so the next RULE: " + whom, wish(seer(33, whom.equals("above") ? 4 : 6, 0), "to " + whom + " 0;to all 3;"),
                    whom.equals("all") ? 33 : 30);
                int rank = whom.equals("above") ? 6 : whom.equals("below") ? 4 : 5;
                c.is("a MEAN of 0: " + whom, wish(seer(33, rank, 0), "to " + whom + " 60;stay;"), 0);
            }
        });
        edge.of("MEAN of a HOUSE: what it shows, none if it shows none", c -> {
            for (int h = 0; h < 4; h++) {
                HemLine x = seer(33);
                for (int i = 0; i < 4; i++) if (i != h) x.shows(i, 10 + i);
                c.is("shows none", wish(x, "to house " + h + " 60;"), 33);
                x.shows(h, 0);
                c.is("shows 0", x.wears(0, 6), 0);
                x.shows(h, 60);
                c.is("shows 60", x.wears(0, 6), 60);
                x.shows(h, -1);
                c.is("shows none again", x.wears(0, 6), 33);
            }
        });
    }

    private static void old(Edge edge) {
        edge.of("old n: of all PEOPLE at the end of the SEASON n ahead of the one reckoned from", c -> {
            HemLine x = Checks.dancers(10, 20, 31);
            Checks.step(x, 30, 30, 31);
            Checks.step(x, 0, 1, 1);
            Checks.step(x, 60, 59, 58);
            // (10 + 20 + 31) by 3 is 20, 91 by 3 is 30, 2 by 3 is 0
            c.is("old 3", wish(x, "to old 3 60;"), 20);
            c.is("old 2", wish(x, "to old 2 60;"), 30);
            c.is("old 1", wish(x, "to old 1 60;"), 0);
            x.run(1);
            c.is("worn in the next SEASON", x.length(0, 4), 0);
            c.is("old 1 of the next one", x.wears(0, 6), 59);
        });
        edge.of("old n: SEASON 0 is RECORDED, none ahead of it", c -> {
            HemLine x = Checks.follower(10);
            c.is("old 1 in SEASON 0", wish(x, "to old 1 60;from house 1 5;"), 10);
            x.force(0);
            Checks.walk(x, 20);
            x.force(1);
            c.is("old 1 in SEASON 1", x.wears(0, 6), 10);
            x.force(0);
            Checks.walk(x, 30);
            c.is("old 2 in SEASON 2", wish(x, "to old 2 60;"), 10);
            c.is("old 3 in SEASON 2: the next RULE", wish(x, "to old 3 60;to house 0 0;to old 1 3;"), 30);
            c.is("old 3 in SEASON 2: the next RULE", wish(x, "to old 3 60;to old 1 3;"), 27);
        });
        edge.of("old 99", c -> {
            HemLine x = new HemLine();
            x.person(1, 0, 0);
            x.shows(0, 60);
            Checks.tell(x, "to old 99 60;to house 0 1 if season<50;");
            x.run(49);
            c.is("line(49)", x.line(49), 4900);
            x.run(50);
            c.is("none in SEASON 98", x.line(99), 4900);
            x.run(4);
            for (int i = 0; i < 4; i++) c.is("line(" + (100 + i) + ")", x.line(100 + i), 100 * i);
            x.run(60);
            c.is("line(163)", x.line(163), 4900);
            x.run(37);
            c.is("line(199) is line(99)", x.line(199), 4900);
            c.is("line(200) is line(100)", x.line(200), 0);
        });
        edge.of("old n: none where no SEASON is RECORDED in a TRIAL either", c -> {
            HemLine x = Checks.follower(10);
            Checks.walk(x, 20);
            Checks.tell(x, "to old 2 60;");
            // 20, then by old 2: none, 10, 20, 20, 10 ..
            c.is("foretell(1)", x.foretell(1), 0);
            c.is("held(0, 0)", x.held(0, 0), 2000);
            x.foretell(2);
            c.is("held(1, 0)", x.held(1, 0), 1000);
            x.foretell(3);
            c.is("held(2, 0)", x.held(2, 0), 2000);
            x.foretell(4);
            c.is("a TRIAL's own SEASONS", x.held(3, 0), 2000);
            x.foretell(5);
            c.is("a TRIAL's own SEASONS", x.held(4, 0), 1000);
        });
    }

    private static void to(Edge edge) {
        edge.of("to: its LENGTH goes to the MEAN, by BY at most", c -> {
            for (int way = -3; way <= 3; way++) {
                for (int by = 0; by <= 4; by++) {
                    int due = 30 + Math.max(-by, Math.min(by, way));
                    c.is("by " + by + " for " + way, wish(seer(30, 6, 30 + way), "to above " + by + ";"), due);
                }
            }
        });
        edge.of("to: from 0 to 60 and back", c -> {
            c.is("by 60", wish(seer(0, 6, 60), "to above 60;"), 60);
            c.is("by 59", wish(seer(0, 6, 60), "to above 59;"), 59);
            c.is("by 60 down", wish(seer(60, 6, 0), "to above 60;"), 0);
            c.is("by 59 down", wish(seer(60, 6, 0), "to above 59;"), 1);
            c.is("by 0", wish(seer(60, 6, 0), "to above 0;"), 60);
        });
    }

    private static void from(Edge edge) {
        edge.of("from: if it's less than BY from the MEAN", c -> {
            c.is("one less", wish(seer(30, 6, 26), "from above 5;"), 31);
            c.is("as much", wish(seer(30, 6, 25), "from above 5;"), 30);
            c.is("one more", wish(seer(30, 6, 24), "from above 5;"), 30);
            c.is("one less, below", wish(seer(30, 6, 34), "from above 5;"), 29);
            c.is("as much, below", wish(seer(30, 6, 35), "from above 5;"), 30);
            c.is("one more, below", wish(seer(30, 6, 36), "from above 5;"), 30);
            c.is("far below", wish(seer(0, 6, 60), "from above 5;"), 0);
            c.is("BY 0", wish(seer(30, 6, 30), "from above 0;"), 30);
        });
        edge.of("from: above it, if it isn't below it", c -> {
            c.is("as long", wish(seer(30, 6, 30), "from above 5;"), 35);
            c.is("one above", wish(seer(31, 6, 30), "from above 5;"), 35);
            c.is("BY 1", wish(seer(30, 6, 30), "from above 1;"), 31);
        });
        edge.of("from: else below it", c -> {
            c.is("one below", wish(seer(29, 6, 30), "from above 5;"), 25);
            c.is("four below", wish(seer(26, 6, 30), "from above 5;"), 25);
        });
        edge.of("from: held to 60", c -> {
            c.is("59", wish(seer(55, 6, 54), "from above 5;"), 59);
            c.is("60", wish(seer(55, 6, 55), "from above 5;"), 60);
            c.is("61", wish(seer(56, 6, 56), "from above 5;"), 60);
            c.is("120", wish(seer(60, 6, 60), "from above 60;"), 60);
        });
        edge.of("from: held to 0", c -> {
            c.is("1", wish(seer(5, 6, 6), "from above 5;"), 1);
            c.is("0", wish(seer(4, 6, 5), "from above 5;"), 0);
            c.is("-1", wish(seer(3, 6, 4), "from above 5;"), 0);
            c.is("-59", wish(seer(0, 6, 1), "from above 60;"), 0);
        });
        edge.of("from: each WHOM", c -> {
            c.is("below", wish(seer(30, 4, 30), "from below 5;"), 35);
            c.is("alike", wish(seer(30, 5, 31), "from alike 5;"), 26);
            c.is("all", wish(seer(30, 5, 31, 6, 32), "from all 5;"), 26);
            HemLine x = seer(30);
            x.shows(3, 30);
            c.is("house 3", wish(x, "from house 3 7;"), 37);
            HemLine y = Checks.follower(30);
            Checks.walk(y, 31);
            c.is("old 1", wish(y, "from old 1 7;"), 37);
        });
    }

    private static void rules(Edge edge) {
        edge.of("the first RULE whose ANY holds", c -> {
            c.is("the first", wish(seer(30, 6, 0), "to above 1 if rank=5;to above 2 if rank=5;to above 3;"), 29);
            c.is("the second", wish(seer(30, 6, 0), "to above 1 if rank=4;to above 2 if rank=5;to above 3;"), 28);
            c.is("that has none", wish(seer(30, 6, 0), "to above 1 if rank=4;to above 3;to above 2 if rank=5;"), 27);
        });
        edge.of("and whose WHOM has a MEAN", c -> {
            c.is("the next one", wish(seer(30, 6, 0), "to below 1;from alike 9 if rank=5;to house 1 5;to old 1 6;to above 3;"), 27);
            c.is("from as well", wish(seer(30, 6, 30), "from below 1;from above 3;"), 33);
        });
        edge.of("stay always", c -> {
            c.is("stay", wish(seer(30, 6, 0), "stay;to above 3;"), 30);
            c.is("stay, if", wish(seer(30, 6, 0), "stay if rank=5;to above 3;"), 30);
            c.is("stay, if not", wish(seer(30, 6, 0), "stay if rank=4;to above 3;"), 27);
            HemLine x = seer(30);
            x.shows(0, 60);
            c.is("stay, though it SEES nobody", wish(x, "stay;to house 0 3;"), 30);
        });
        edge.of("a RULE by which it needn't go is the first one, too", c -> {
            c.is("to by 0", wish(seer(30, 6, 0), "to above 0;to above 3;"), 30);
            c.is("from far off", wish(seer(30, 6, 0), "from above 9;to above 3;"), 30);
        });
        edge.of("without such a RULE: its own", c -> {
            c.is("none holds", wish(seer(30, 6, 0), "to above 3 if rank=4;from above 60 if rank=6;"), 30);
            c.is("none has a MEAN", wish(seer(30, 6, 0), "to below 3;from alike 60;"), 30);
            c.is("no RULES", wish(seer(30, 6, 0), ""), 30);
        });
    }

    /** In which of the first SEASONS a follower of HOUSE 0 goes up an inch by what it asks, as bits. */
    private static int when(HemLine x, String any, int seasons) {
        int bits = 0;
        x.shows(0, 60);
        Checks.tell(x, "to house 0 1 if " + any + ";");
        for (int s = 1; s <= seasons; s++) {
            int before = x.wears(0, 2);
            x.run(1);
            bits |= x.wears(0, 2) > before ? 1 << s : 0;
        }
        return bits;
    }

    private static HemLine one(int purse, int length) {
        HemLine x = new HemLine();
        x.person(5, purse, length);
        return x;
    }

    private static void asked(Edge edge) {
        edge.of("asked: SEASON is 1 more first", c -> {
            c.is("season=1", when(one(0, 10), "season=1", 3), 2);
            c.is("season=0", when(one(0, 10), "season=0", 3), 0);
            c.is("season>1", when(one(0, 10), "season>1", 3), 4 + 8);
            HemLine x = one(0, 10);
            x.shows(0, 60);
            Checks.tell(x, "to house 0 1 if season=200;");
            for (int i = 0; i < 4; i++) x.run(50);
            c.is("season=200", x.wears(0, 2), 11);
            Checks.tell(x, "to house 0 3 if season=201;");
            c.is("the next one of 200", x.wears(0, 6), 14);
        });
        edge.of("asked: its LENGTH, as it was", c -> {
            c.is("length<12", when(one(0, 10), "length<12", 4), 2 + 4);
            c.is("length=11", when(one(0, 10), "length=11", 4), 0);
            c.is("length=0", when(one(0, 0), "length=0", 4), 2);
        });
        edge.of("asked: COIN behind PURSE", c -> {
            c.is("coin=7", when(one(7, 10), "coin=7", 3), 2);
            c.is("coin=0", when(one(7, 10), "coin=0", 3), 0);
            c.is("coin=21", when(one(7, 10), "coin=21", 3), 8);
        });
        edge.of("asked: WORN as it was, MONEY of the SEASON ahead", c -> {
            c.is("worn=0", when(one(0, 10), "worn=0", 3), 2 + 4 + 8);
            c.is("worn=1 or season=1", when(one(0, 10), "season=1 or worn=1", 5), 2 + 8 + 32);
            HemLine x = one(0, 10);
            x.money(5);
            x.shows(0, 60);
            Checks.tell(x, "to house 0 1 if money=5;");
            x.run(1);
            x.money(6);
            x.run(1);
            x.money(5);
            x.run(1);
            c.is("three SEASONS, two of them with 5", x.wears(0, 2), 12);
        });
        edge.of("asked: MEANS, 0 without", c -> {
            for (String word : new String[] {"above", "below", "alike", "all"}) {
                c.is(word + "=0", when(one(0, 10), word + "=0", 1), 2);
                c.is(word + ">0", when(one(0, 10), word + ">0", 1), 0);
                c.is("not " + word + "<1", when(one(0, 10), "not " + word + "<1", 1), 0);
            }
            c.is("above=7, below=0", when(seer(10, 6, 7), "above=7 and below=0 and alike=0 and all=7", 1), 2);
            c.is("below=7, above=0", when(seer(10, 4, 7), "below=7 and above=0 and alike=0 and all=7", 1), 2);
            c.is("alike=7", when(seer(10, 5, 7), "alike=7 and above=0 and below=0 and all=7", 1), 2);
            c.is("all, cut", when(seer(10, 5, 7, 4, 8, 6, 8), "all=7 and alike=7 and below=8 and above=8", 1), 2);
        });
        edge.of("all by LENGTHS (and MEANS) as they were", c -> {
            HemLine x = new HemLine();
            for (int p = 0; p < 3; p++) x.person(p, 0, 20 * p);
            x.sees(0, 1, true);
            x.sees(1, 2, true);
            x.sees(2, 0, true);
            Checks.tell(x, "to all 60;");
            x.run(1);
            int[] due = {20, 40, 0};
            for (int p = 0; p < 3; p++) c.is("length(" + p + ", 1)", x.length(p, 1), due[p]);
            Checks.tell(x, "to all 60 if all=40;to all 60 if all=0;stay;");
            x.run(1);
            int[] then = {40, 0, 0};
            for (int p = 0; p < 3; p++) c.is("length(" + p + ", 2)", x.length(p, 2), then[p]);
        });
    }

    /** A PERSON of a PURSE one SEASON on, with HOUSE 0 so many inches off: its COIN, WORN and LENGTH. */
    private static void bought(Checks c, int purse, int inches, int[] prices, int coin, int worn) {
        HemLine x = one(purse, 30);
        x.set(prices[0], prices[1], prices[2]);
        x.shows(0, 30 + inches);
        Checks.tell(x, "to house 0 60;");
        x.run(1);
        String what = "purse " + purse + ", inches " + inches;
        c.is(what + ": COIN", x.wears(0, 3), coin);
        c.is(what + ": WORN", x.wears(0, 4), worn);
        c.is(what + ": LENGTH", x.wears(0, 2), worn == 0 ? 30 + inches : 30);
    }

    private static void pays(Edge edge) {
        edge.of("it costs OVER, if that's at most SEAM inches off, else PRICE", c -> {
            int[] prices = {20, 3, 7};
            int[][] due = {{1, 43}, {2, 43}, {3, 43}, {4, 30}, {5, 30}, {-1, 43}, {-3, 43}, {-4, 30}, {30, 30}, {-30, 30}};
            for (int[] d : due) bought(c, 50, d[0], prices, d[1], 0);
            bought(c, 50, 1, new int[] {20, 0, 7}, 30, 0);
            bought(c, 50, 9, new int[] {20, 9, 7}, 43, 0);
            bought(c, 50, 10, new int[] {20, 9, 7}, 30, 0);
        });
        edge.of("OVER may be more than PRICE", c -> {
            bought(c, 50, 1, new int[] {2, 1, 9}, 41, 0);
            bought(c, 5, 1, new int[] {2, 1, 9}, 5, 1);
            bought(c, 5, 2, new int[] {2, 1, 9}, 3, 0);
        });
        edge.of("if COIN is at least so much it pays and wears it", c -> {
            int[] prices = {20, 3, 7};
            bought(c, 20, 4, prices, 0, 0);
            bought(c, 19, 4, prices, 19, 1);
            bought(c, 21, 4, prices, 1, 0);
            bought(c, 7, 3, prices, 0, 0);
            bought(c, 6, 3, prices, 6, 1);
            bought(c, 8, 3, prices, 1, 0);
            bought(c, 0, 9, new int[] {0, 0, 0}, 0, 0);
            bought(c, 0, 9, new int[] {0, 9, 0}, 0, 0);
            bought(c, 0, 9, new int[] {1, 0, 0}, 0, 1);
        });
        edge.of("WORN 0, or grows by 1: its own", c -> {
            HemLine x = one(9, 30);
            x.law(0);
            for (int s = 1; s <= 5; s++) {
                x.run(1);
                c.is("wears(0, 4)", x.wears(0, 4), s);
            }
            x.shows(0, 31);
            Checks.tell(x, "to house 0 60;");
            x.run(1);
            c.is("another one", x.wears(0, 4), 0);
            x.run(2);
            c.is("its own again", x.wears(0, 4), 2);
            x.force(0);
            for (int i = 0; i < 3; i++) x.run(60);
            c.is("182", x.wears(0, 4), 182);
            x.run(12);
            c.is("194", x.wears(0, 4), 194);
        });
        edge.of("WORN grows by 1: it keeps its own, for it can't pay", c -> {
            HemLine x = one(2, 30);
            x.set(7, 0, 0);
            x.shows(0, 31);
            Checks.tell(x, "to house 0 60;");
            int[] coin = {2, 4, 6, 1, 3, 5};
            int[] worn = {1, 2, 3, 0, 1, 2};
            for (int s = 0; s < 6; s++) {
                x.run(1);
                c.is("wears(0, 3) in " + s, x.wears(0, 3), coin[s]);
                c.is("wears(0, 4) in " + s, x.wears(0, 4), worn[s]);
            }
        });
        edge.of("its own costs nothing", c -> {
            HemLine x = one(3, 30);
            x.set(1, 9, 1);
            x.shows(0, 30);
            Checks.tell(x, "to house 0 60;");
            x.run(3);
            c.is("wears(0, 3)", x.wears(0, 3), 9);
            c.is("wears(0, 14) + wears(0, 15)", x.wears(0, 14) + x.wears(0, 15), 0);
        });
    }

    private static void coins(Edge edge) {
        edge.of("COIN: 9,999 at most", c -> {
            HemLine x = one(99, 30);
            HemLine y = one(98, 30);
            HemLine z = one(11, 30);
            for (HemLine one : new HemLine[] {x, y, z}) one.law(0);
            for (HemLine one : new HemLine[] {x, y, z}) one.run(50);
            for (HemLine one : new HemLine[] {x, y, z}) one.run(51);
            c.is("99 times 101 is 9,999", x.wears(0, 3), 9999);
            c.is("98 times 101", y.wears(0, 3), 9898);
            for (HemLine one : new HemLine[] {x, y, z}) one.run(1);
            c.is("no more", x.wears(0, 3), 9999);
            c.is("98 times 102", y.wears(0, 3), 9996);
            for (HemLine one : new HemLine[] {x, y, z}) one.run(1);
            c.is("cut", y.wears(0, 3), 9999);
            c.is("11 times 103", z.wears(0, 3), 1133);
            for (HemLine one : new HemLine[] {x, y, z}) one.run(60);
            c.is("no more", x.wears(0, 3), 9999);
            c.is("no more", y.wears(0, 3), 9999);
        });
        edge.of("COIN: 9,999 before it pays", c -> {
            HemLine x = one(99, 30);
            x.law(0);
            x.run(60);
            x.run(50);
            x.set(999, 0, 0);
            x.shows(0, 31);
            Checks.tell(x, "to house 0 60;");
            x.run(1);
            c.is("wears(0, 3)", x.wears(0, 3), 9000);
            x.run(1);
            c.is("wears(0, 3)", x.wears(0, 3), 9099);
        });
        edge.of("COIN grows by PURSE 0", c -> {
            HemLine x = one(0, 30);
            x.law(0);
            x.run(60);
            c.is("wears(0, 3)", x.wears(0, 3), 0);
        });
    }
}
