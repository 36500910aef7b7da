/** The edges of likeness, odds, pairs, rules, groups, seats given anew, draws, fits, means, ends. */
public final class OddsEdgeTest {
    private static final int LEAST = Integer.MIN_VALUE, MOST = Integer.MAX_VALUE;
    private static final long NO = Long.MIN_VALUE;
    private static final Due DUE = new Due("OddsEdgeTest");

    public static void main(String[] args) {
        promise17();
        promise18Nothing();
        promise18Only();
        promise18Greatest();
        promise19();
        promise20();
        promise21();
        promise22();
        promise23Pairs();
        promise23First();
        promise23Near();
        promise23Each();
        promise23Rules();
        promise24To26();
        promise26Then();
        promise25();
        promise27To29();
        promise27Uses();
        promise23Crowd();
        promise29();
        promise30();
        promise30Six();
        promise31();
        promise31Shares();
        promise32();
        promise34();
        promise35();
        promise37();
        promise37Rows();
        promise37Full();
        DUE.end();
    }

    private static void due(String call, long got, long want) {
        DUE.is(call, got, want);
    }

    private static void ratio(String call, long above, long below, long wantAbove, long wantBelow) {
        due(call + ", above", above, wantAbove);
        due(call + ", below", below, wantBelow);
    }

    private static void odds(String call, CopyBench x, int by, long above, long below) {
        ratio("18 " + call + " by " + by, x.odds(0, 1, by, 0), x.odds(0, 1, by, 1), above, below);
    }

    private static void just(CopyBench x, int by, int k, long above, long below) {
        ratio("19 by " + by + " just " + k, x.just(0, 1, by, k, 0), x.just(0, 1, by, k, 1), above, below);
    }

    private static void pairOdds(String call, CopyBench x, int k, long above, long below) {
        ratio("25 " + call, x.pairOdds(k, 0), x.pairOdds(k, 1), above, below);
    }

    private static void seated(String call, CopyBench x, int r, long above, long below) {
        ratio("30 " + call + ", by " + r, x.seated(r, 0), x.seated(r, 1), above, below);
    }

    private static void promise17() {
        CopyBench x = Benches.sheets(8, 4, "0bbbbbbbb;1bbbbbbbb;2--------;3b-c-----");
        due("17 all WRONG, W 1", x.alike(0, 1), 8);
        x.use(5, 4);
        due("17 the greatest", x.alike(1, 0), 32);
        due("17 one gave none", x.alike(0, 2), 0);
        due("17 one ANSWER alike", x.alike(3, 0), 4);
        for (int item = 0; item < 8; item++) {
            x.right(item, 1);
        }
        due("17 all RIGHT, R 0", x.alike(0, 1), 0);
        x.use(4, 2);
        due("17 all RIGHT, R 2", x.alike(0, 1), 16);
        x.use(4, 1);
        due("17 all RIGHT, R 1", x.alike(0, 1), 8);
        x.right(7, 2);
        due("17 all but one RIGHT", x.alike(0, 1), 11);
        CopyBench y = Benches.with(8, 2);
        due("17 neither gave any", y.alike(0, 1), 0);
    }

    /** Nothing to be alike in: whatever the supposition, it is certain. */
    private static void promise18Nothing() {
        for (String text : new String[] {"0----;1----", "0ab--;1--cd", "0a;1-", "0-;1a", "0ab;1ba"}) {
            CopyBench x = Benches.sheets(4, 2, text);
            x.use(4, 2);
            for (int by = 0; by < 4; by++) {
                odds("nothing alike in " + text, x, by, 1, 1);
            }
        }
        CopyBench y = Benches.sheets(2, 2, "0aa;1aa");
        for (int by = 0; by < 4; by++) {
            odds("R 0, all RIGHT", y, by, 1, 1);
        }
    }

    /** Of an item to which but one gave an answer never; that a right one stays right. */
    private static void promise18Only() {
        CopyBench x = Benches.sheets(3, 2, "0b-c;1bc-");
        odds("one item of both", x, 0, 3, 16);
        odds("one item of both", x, 1, 1, 3);
        odds("one item of both", x, 2, 1, 4);
        odds("one item of both", x, 3, 1, 3);
        CopyBench y = Benches.sheets(2, 2, "0ab;1cb");
        y.use(4, 1);
        // The first, one right, one wrong, is alike by GIVEN and BOUND never; by FREE and SOURCE either in 1/4.
        odds("one is right", y, 0, 7, 16);
        odds("one is right", y, 1, 1, 3);
        odds("one is right", y, 2, 7, 16);
        odds("one is right", y, 3, 1, 3);
        for (int by = 1; by < 4; by += 2) {
            ratio("18 the other is right by " + by, y.odds(1, 0, by, 0), y.odds(1, 0, by, 1), 1, 3);
        }
        ratio("18 the other is right by 2", y.odds(1, 0, 2, 0), y.odds(1, 0, 2, 1), 7, 16);
        y.use(4, 2);
        for (int by = 1; by < 4; by += 2) {
            ratio("19 one right and one wrong are never alike", y.just(0, 1, by, 2, 0), y.just(1, 0, by, 2, 0), 0, 0);
        }
        CopyBench z = Benches.sheets(1, 2, "0a;1a");
        z.use(4, 1);
        odds("both are right", z, 0, 1, 4);
        odds("both are right", z, 1, 1, 1);
        odds("both are right", z, 2, 1, 4);
        odds("both are right", z, 3, 1, 1);
        z.use(4, 2);
        odds("both are right, which is more", z, 0, 1, 16);
        odds("both are right, which is more", z, 2, 1, 4);
    }

    private static CopyBench allAlike(int kind) {
        CopyBench x = Benches.sheets(8, 8, "0bbbbbbbb;1bbbbbbbb");
        for (int item = 0; item < 8; item++) {
            x.model(item, kind);
            for (int c = 2; c < 8; c++) {
                x.gives(c, item, c == 2 ? 1 : 0);
            }
        }
        return x;
    }

    private static void promise18Greatest() {
        CopyBench x = allAlike(2);
        // Shares 6, 4, 1, 1: wrong alike 18/144 by FREE, 18/36 by GIVEN, 4/12 by SOURCE, 4/6 by BOUND.
        odds("eight LEARNT ones", x, 0, 1, 16777216);
        odds("eight LEARNT ones", x, 1, 1, 256);
        odds("eight LEARNT ones", x, 2, 1, 6561);
        odds("eight LEARNT ones", x, 3, 256, 6561);
        x.use(5, 4);
        odds("eight LEARNT ones, W 4", x, 1, 1, 256);
        CopyBench y = allAlike(3);
        // Shares 6, 2, 1, 1.
        odds("eight BARE ones", y, 2, 1, 390625);
        odds("eight BARE ones", y, 3, 1, 256);
        CopyBench z = allAlike(1);
        for (int item = 0; item < 8; item++) {
            z.part(item, 0, 3);
            z.part(item, 1, 3);
            z.part(item, 2, 3);
            z.part(item, 3, 2);
        }
        // Shares 3, 3, 3, 2: 22/121 is 2/11.
        odds("eight TOLD ones", z, 0, 256, 214358881);
        z.part(7, 1, 1);
        z.part(7, 2, 2);
        z.part(7, 3, 1);
        z.part(6, 3, 3);
        // The last: 3, 1, 2, 1: 6/49; the one before it: 3, 3, 3, 3: 27/144.
        odds("eight TOLD ones, unlike", z, 0, 4 * 6 * 3, 1771561L * 49);
    }

    private static void promise19() {
        CopyBench x = Benches.sheets(8, 2, "0bbbbbbbb;1bbbbbbbb");
        x.use(5, 4);
        just(x, 0, 0, 815730721, 4294967296L);
        just(x, 0, 32, 6561, 4294967296L);
        just(x, 0, 31, 0, 1);
        just(x, 0, 28, 2187 * 13, 536870912L);
        just(x, 3, 0, 256, 6561);
        just(x, 2, 32, 1, 65536);
        x.use(5, 1);
        just(x, 0, 8, 6561, 4294967296L);
        just(x, 0, 9, 0, 1);
        just(x, 0, 32, 0, 1);
        CopyBench y = Benches.sheets(2, 2, "0a-;1-b");
        for (int by = 0; by < 4; by++) {
            just(y, by, 0, 1, 1);
            just(y, by, 1, 0, 1);
            just(y, by, 32, 0, 1);
        }
        CopyBench z = Benches.sheets(1, 2, "0b;1b");
        // R 0: to be alike right is no likeness.
        just(z, 0, 0, 13, 16);
        z.use(4, 1);
        just(z, 0, 0, 3, 4);
        just(z, 0, 1, 1, 4);
        z.use(4, 2);
        just(z, 0, 1, 3, 16);
        just(z, 0, 2, 1, 16);
    }

    private static void promise20() {
        CopyBench x = Benches.sheets(2, 3, "0bc;1bc;2--");
        due("20 like ones", x.source(0, 1), -5);
        due("20 nothing alike", x.source(0, 2), -5);
        x.model(0, 1);
        x.part(0, 1, 3);
        due("20 like ones of unlike PARTS", x.source(0, 1), -5);
        CopyBench y = Benches.sheets(2, 8, "6bb;7bc");
        y.model(1, 1);
        y.part(1, 1, 2);
        due("20 the last", y.source(6, 7), 7);
        due("20 in the other order", y.source(7, 6), 7);
        y.part(1, 1, 1);
        y.part(1, 2, 2);
        due("20 the last but one", y.source(6, 7), 6);
        due("20 in the other order", y.source(7, 6), 6);
    }

    private static void promise21() {
        CopyBench x = Benches.sheets(1, 2, "0b;1b");
        ratio("21 the only ITEM", x.without(0, 1, 0, 0), x.without(0, 1, 0, 1), 1, 1);
        CopyBench y = Benches.sheets(8, 8, "0bbbbbbbb;1bbbbbb-b;2bbbbbbb;3bbbbbbb");
        ratio("21 the last", y.without(0, 1, 7, 0), y.without(0, 1, 7, 1), 729, 16777216);
        ratio("21 one to which one gave none", y.without(0, 1, 6, 0), y.without(0, 1, 6, 1), 2187, 268435456);
        y.model(0, 2);
        // Shares of the first: 1, 5, 1, 1: 27/64.
        ratio("21 all else as it is", y.without(1, 0, 7, 0), y.without(1, 0, 7, 1), 27 * 243, 64L * 1048576);
        ratio("21 without the LEARNT one", y.without(0, 1, 0, 0), y.without(0, 1, 0, 1), 729, 16777216);
        CopyBench z = Benches.sheets(2, 2, "0bc;1bd");
        ratio("21 without one unlike", z.without(0, 1, 1, 0), z.without(0, 1, 1, 1), 3, 16);
        ratio("21 LIKENESS without it, too", z.without(0, 1, 0, 0), z.without(0, 1, 0, 1), 1, 1);
    }

    private static void promise22() {
        CopyBench x = Benches.sheets(8, 2, "0bbbbbbbb;1bbbbbbbb");
        due("22 of like ones the first", x.key(0, 1), 0);
        x.model(7, 1);
        x.part(7, 0, 3);
        due("22 the last", x.key(0, 1), 7);
        x.model(6, 1);
        x.part(6, 0, 3);
        due("22 of two like ones the first", x.key(1, 0), 6);
        for (int item = 0; item < 8; item++) {
            CopyBench z = Benches.sheets(8, 2, "0bbbbbbbb;1bbbbbbbb");
            z.model(item, 1);
            z.part(item, 0, 3);
            due("22 each ITEM, " + item, z.key(0, 1), item);
            CopyBench only = Benches.with(8, 2);
            only.gives(0, item, 1);
            only.gives(1, item, 1);
            due("22 the only one of both, " + item, only.key(0, 1), item);
        }
        due("22 the only ITEM", Benches.sheets(1, 2, "0b;1b").key(0, 1), 0);
        due("22 no ANSWERS", Benches.with(8, 2).key(0, 1), 0);
        CopyBench y = Benches.sheets(3, 2, "0c-b;1b-b");
        due("22 the only one alike", y.key(0, 1), 2);
        CopyBench rare = Benches.sheets(2, 2, "0aa;1aa");
        rare.use(4, 1);
        rare.use(5, 4);
        // With both ITEMS 88/256, which is more than 1/4 WITHOUT either; that is none of the ITEMS.
        due("22 ODDS with all are greater", rare.odds(0, 1, 0, 0), 11);
        due("22 an ITEM all the same", rare.key(0, 1), 0);
    }

    private static void promise23Pairs() {
        int[] due = {0, 0, 1, 3, 6, 10, 15, 21, 28};
        for (int candidates = 0; candidates <= 8; candidates++) {
            CopyBench x = Benches.with(1, candidates);
            due("23 PAIRS of " + candidates, x.pairs(0, LEAST), due[candidates]);
            due("23 none is NEAR", x.pairs(2, 9), 0);
            x.use(2, 500);
            due("23 none SUSPECT, odds 1", x.pairs(1, MOST), 0);
            due("23 no GROUPS", x.pairs(3, -1) + x.pairs(4, -1), 0);
            x.use(3, 9);
            due("23 PAIRS without SEATS", x.pairs(0, 0), 0);
        }
    }

    /** Each asking call is the first that is asked of an object, so that it finds nothing worked out before. */
    private static void promise23First() {
        String text = "0bbbb;1bbbb;2bbbb;3cccc";
        due("23 SUSPECT, asked first", Benches.sheets(4, 4, text).pairs(1, 0), 3);
        due("23 GROUPS, asked first", Benches.sheets(4, 4, text).pairs(3, 0), 1);
        due("23 the greatest, asked first", Benches.sheets(4, 4, text).pairs(4, 0), 3);
        due("24 SUSPECT or not, asked first", Benches.sheets(4, 4, text).pair(2, 2), 1);
        due("25 ODDS, asked first", Benches.sheets(4, 4, text).pairOdds(2, 0), 81);
        due("26 RANK, asked first", Benches.sheets(4, 4, text).rank(1, 2), 2);
        due("27 who, asked first", Benches.sheets(4, 4, text).linked(1), 5);
        due("28 CHAIN, asked first", Benches.sheets(4, 4, text).chain(1), 7);
        due("29 GROUP, asked first", Benches.sheets(4, 4, text).group(0), 7);
        CopyBench x = Benches.sheets(4, 4, text);
        for (int c = 0; c < 4; c++) {
            x.seat(c, 0, c);
        }
        // The three sit on seats of which 0 and 3 aren't both: on one half of all sets of three.
        due("30 SEATED, asked first", x.seated(2, 1), 2);
        // Then each behind a change, so that it finds what was before.
        for (int item = 0; item < 3; item++) {
            x.gives(2, item, -1);
        }
        due("23 the greatest, behind a change", x.pairs(4, 0), 2);
        for (int item = 1; item < 4; item++) {
            x.gives(1, item, -1);
        }
        due("29 GROUP, behind a change", x.group(0), -5);
        for (int item = 1; item < 4; item++) {
            x.gives(1, item, 1);
        }
        due("27 who, behind a change", x.linked(0), 2);
        x.use(2, 1);
        due("28 CHAIN, behind a change", x.chain(0), 1);
        x.use(2, 50);
        due("30 SEATED, behind a change", x.seated(2, 1), 6);
        x.use(2, 1);
        due("24 SUSPECT or not, behind a change", x.pair(0, 2), 0);
    }

    private static void promise23Near() {
        for (int r = 0; r <= 9; r++) {
            int[][] others = {{r, 0}, {0, r}, {r, r}, {r + 1, 0}, {0, r + 1}, {r, r + 1}, {r + 1, r}};
            for (int i = 0; i < others.length; i++) {
                CopyBench x = Benches.with(1, 3);
                boolean sits = x.seat(1, others[i][0], others[i][1]) == 1;
                x.seat(0, 0, 0);
                int due = i < 3 && r > 0 ? 1 : 0;
                String told = "23 " + others[i][0] + " " + others[i][1] + " and 0 0 by " + r;
                due(told + ": NEAR", x.pairs(2, r), sits ? due : 0);
                if (r > 0) {
                    x.use(3, r);
                    due(told + ": PAIRS", x.pairs(0, 0), sits ? due : 0);
                    due(told + ": RANK", x.rank(1, 0), sits && due == 1 ? 0 : -5);
                }
            }
        }
        CopyBench y = Benches.with(1, 3);
        y.seat(0, 5, 5);
        due("23 one alone has a SEAT", y.pairs(2, 9), 0);
        y.seat(2, 4, 6);
        due("23 two have", y.pairs(2, 1), 1);
        y.use(3, 1);
        due("23 one PAIR by REACH 1", y.pairs(0, 0), 1);
        y.use(3, 0);
        due("23 all by REACH 0", y.pairs(0, 0), 3);
    }

    private static int suspects(CopyBench x, int rule, int level) {
        x.use(1, rule);
        x.use(2, level);
        return x.pairs(1, 0);
    }

    /** One pair alike in one answer of PARTS 1 by 5 and so on: 200 thousandths, 500, 1000 by SOURCE. */
    private static void promise23Each() {
        CopyBench x = Benches.sheets(1, 2, "0b;1b");
        x.use(0, 2);
        x.model(0, 1);
        x.part(0, 0, 2);
        for (int rule = 0; rule < 4; rule++) {
            due("23 one PAIR, LEVEL 199, RULE " + rule, suspects(x, rule, 199), 0);
            due("23 one PAIR, LEVEL 200, RULE " + rule, suspects(x, rule, 200), 1);
        }
        x.part(0, 0, 1);
        x.part(0, 1, 3);
        for (int rule = 0; rule < 4; rule++) {
            due("23 one PAIR, LEVEL 499, RULE " + rule, suspects(x, rule, 499), 0);
            due("23 one PAIR, LEVEL 500, RULE " + rule, suspects(x, rule, 500), 1);
        }
        CopyBench y = Benches.sheets(8, 2, "0bbbbbbbb;1bbbbbbbb");
        due("23 LEVEL 1", suspects(y, 0, 1), 1);
        for (int rule = 0; rule < 4; rule++) {
            due("23 no PAIRS, RULE " + rule, suspects(Benches.with(1, 1), rule, 500), 0);
        }
    }

    /** Odds 40, 200, 200 thousandths by SOURCE: m times 120, 600, 600, by steps 120, 400, 200, by RANK 120, 300, 200. */
    private static void promise23Rules() {
        CopyBench x = Benches.sheets(2, 3, "0bb;1bb;2b-");
        x.use(0, 2);
        for (int item = 0; item < 2; item++) {
            x.model(item, 1);
            x.part(item, 0, 2);
        }
        int[][] due = {
            // level, suspect by EACH, FAMILY, STEPS, MISTAKES
            {1, 0, 0, 0, 0}, {39, 0, 0, 0, 0}, {40, 1, 0, 0, 0}, {119, 1, 0, 0, 0}, {120, 1, 1, 1, 1},
            {199, 1, 1, 1, 1}, {200, 3, 1, 1, 3}, {300, 3, 1, 1, 3}, {399, 3, 1, 1, 3}, {400, 3, 1, 3, 3},
            {500, 3, 1, 3, 3}};
        for (int[] row : due) {
            for (int rule = 0; rule < 4; rule++) {
                due("23 LEVEL " + row[0] + " RULE " + rule, suspects(x, rule, row[0]), row[1 + rule]);
                for (int k = 0; k < 3; k++) {
                    due("24 LEVEL " + row[0] + " RULE " + rule + " pair " + k, x.pair(k, 2), k < row[1 + rule] ? 1 : 0);
                }
            }
        }
        x.gives(0, 1, -1);
        // Now 1/5 thrice: by RANK 600, 300, 200.
        due("23 a greater RANK alone", suspects(x, 3, 199), 0);
        due("23 a greater RANK holds for all", suspects(x, 3, 200), 3);
        due("23 STEPS, the first does not hold", suspects(x, 2, 500), 0);
        due("23 FAMILY, none holds", suspects(x, 1, 500), 0);
        x.seat(0, 0, 0);
        x.seat(1, 0, 1);
        x.use(3, 1);
        due("23 m is how many PAIRS by REACH", suspects(x, 1, 200), 1);
        due("23 of these the only one", suspects(x, 1, 199), 0);
        x.seat(2, 0, 2);
        due("23 m is two", suspects(x, 1, 400), 2);
        due("23 of these none", suspects(x, 1, 399), 0);
        due("23 STEPS of two", suspects(x, 2, 400), 2);
        due("23 STEPS of two, none", suspects(x, 2, 399), 0);
        due("23 MISTAKES of two", suspects(x, 3, 200), 2);
        due("23 MISTAKES of two, none", suspects(x, 3, 199), 0);
    }

    /** All odds alike: in order by x, then y. */
    private static void promise24To26() {
        CopyBench x = Benches.with(1, 8);
        int k = 0;
        for (int one = 0; one < 8; one++) {
            for (int other = one + 1; other < 8; other++) {
                due("24 x of " + k, x.pair(k, 0), one);
                due("24 y of " + k, x.pair(k, 1), other);
                due("24 it is not SUSPECT", x.pair(k, 2), 0);
                due("26 its RANK", x.rank(one, other), k);
                due("26 in the other order", x.rank(other, one), k);
                due("25 its ODDS", x.pairOdds(k, 0) + x.pairOdds(k, 1), 2);
                k++;
            }
        }
        due("24 one more", x.pair(28, 0), -2);
        due("25 one more", x.pairOdds(28, 0), NO);
        CopyBench y = Benches.sheets(3, 8, "6bbb;7bbb;0b--;2b--");
        due("24 the least first: x", y.pair(0, 0), 6);
        due("24 the least first: y", y.pair(0, 1), 7);
        due("26 the last two are first", y.rank(7, 6), 0);
        int[][] next = {{0, 2}, {0, 6}, {0, 7}, {2, 6}, {2, 7}, {0, 1}};
        for (int i = 0; i < next.length; i++) {
            due("26 like ones by x, then y", y.rank(next[i][0], next[i][1]), i + 1);
        }
        CopyBench two = Benches.with(1, 2);
        due("24 the only one", two.pair(0, 1), 1);
        due("24 none behind it", two.pair(1, 1), -2);
        CopyBench one = Benches.with(1, 1);
        due("24 none of one", one.pair(0, 0), -2);
        due("25 none of one", one.pairOdds(0, 0), NO);
        for (int c = 0; c < 3; c++) {
            y.seat(c, 0, 4 * c);
        }
        y.use(3, 4);
        due("26 near ones alone", y.rank(2, 1), 1);
        due("26 those who aren't", y.rank(0, 2), -5);
        due("26 those without SEATS", y.rank(6, 7), -5);
        due("24 two near ones", y.pair(1, 0), 1);
        due("24 no third", y.pair(2, 0), -2);
    }

    /** What was a PAIR and is none any more. */
    private static void promise26Then() {
        CopyBench x = Benches.with(1, 3);
        x.seat(0, 0, 0);
        x.seat(1, 0, 1);
        x.seat(2, 9, 9);
        due("26 a PAIR by REACH 0", x.rank(0, 2), 1);
        x.use(3, 1);
        due("26 none by REACH 1", x.rank(0, 2), -5);
        due("26 nor the last one", x.rank(1, 2), -5);
        due("26 the near one still", x.rank(0, 1), 0);
        due("24 no second any more", x.pair(1, 0), -2);
        due("25 no second any more", x.pairOdds(1, 0), NO);
        x.seat(1, -1, 0);
        due("26 none at all", x.rank(0, 1), -5);
        due("24 none at all", x.pair(0, 0), -2);
        x.items(1);
        x.candidate();
        due("24 one alone", x.pair(0, 0), -2);
    }

    /** The lesser of both ways by SOURCE and BOUND, whichever way it is; by FREE and GIVEN they are the same. */
    private static void promise25() {
        for (int turn = 0; turn < 2; turn++) {
            CopyBench x = Benches.sheets(2, 2, turn == 0 ? "0bb;1bc" : "0bc;1bb");
            x.model(1, 1);
            x.part(1, 1, 3);
            x.part(1, 2, 2);
            // PARTS 1, 3, 2, 1: alike by SOURCE 3/7 or 2/7, by BOUND 3/6 or 2/6.
            x.use(0, 2);
            pairOdds("by SOURCE, turn " + turn, x, 0, 13, 28);
            x.use(0, 3);
            pairOdds("by BOUND, turn " + turn, x, 0, 5, 9);
            x.use(0, 0);
            // The second alike wrong by 14/49, the first by 3/16.
            pairOdds("by FREE, turn " + turn, x, 0, 47, 112);
            x.use(0, 1);
            pairOdds("by GIVEN, turn " + turn, x, 0, 16, 27);
            ratio("25 as they are by FREE", x.odds(0, 1, 0, 0), x.odds(1, 0, 0, 1), 47, 112);
        }
    }

    /** Each is suspect with the next alone: of item i candidates i and i + 1 gave an answer. */
    private static CopyBench line() {
        CopyBench x = Benches.with(8, 8);
        for (int item = 0; item < 7; item++) {
            x.gives(item, item, 1);
            x.gives(item + 1, item, 1);
        }
        x.use(2, 188);
        return x;
    }

    private static void promise27To29() {
        CopyBench x = line();
        due("23 SUSPECT", x.pairs(1, 0), 7);
        for (int c = 0; c < 8; c++) {
            due("27 the next ones of " + c, x.linked(c), (1 << c >> 1 | 1 << c + 1) & 255);
            due("28 all of " + c, x.chain(c), 255);
        }
        for (int k = 0; k < 7; k++) {
            due("29 GROUP " + k, x.group(k), 3 << k);
        }
        due("29 no more", x.group(7), -5);
        due("29 far more", x.group(MOST), -5);
        due("23 GROUPS", x.pairs(3, 0), 7);
        due("23 the greatest", x.pairs(4, 0), 2);
        x.gives(4, 3, -1);
        due("28 the first half", x.chain(0), 15);
        due("28 the second half", x.chain(4), 240);
        x.use(2, 187);
        due("27 nobody", x.linked(0), 0);
        due("28 itself", x.chain(7), 128);
        due("29 none", x.group(0), -5);
        CopyBench all = Benches.with(4, 8);
        for (int c = 0; c < 8; c++) {
            for (int item = 0; item < 4; item++) {
                all.gives(c, item, 1);
            }
        }
        for (int c = 0; c < 8; c++) {
            due("27 all but itself", all.linked(c), 255 - (1 << c));
            due("28 all", all.chain(c), 255);
        }
        due("29 all are one GROUP", all.group(0), 255);
        due("29 no second", all.group(1), -5);
        due("23 eight in the greatest", all.pairs(4, 0), 8);
        due("23 all are SUSPECT", all.pairs(1, 0), 28);
    }

    /** Who is suspect goes by the SUPPOSITION in use, whatever the RULE's number, and by the REACH. */
    private static void promise27Uses() {
        // By FREE, GIVEN, SOURCE, BOUND: 3/16, 1/3, 1/4, 1/3.
        int[] level = {188, 334, 250, 334};
        for (int by = 0; by < 4; by++) {
            for (int rule = 0; rule < 4; rule++) {
                CopyBench x = Benches.sheets(1, 2, "0b;1b");
                x.use(0, by);
                x.use(1, rule);
                x.use(2, level[by] - 1);
                String told = " by " + by + " RULE " + rule;
                due("27 not yet" + told, x.linked(0), 0);
                due("28 not yet" + told, x.chain(0), 1);
                due("29 not yet" + told, x.group(0), -5);
                due("37 not yet" + told, x.ends(), 0);
                x.use(2, level[by]);
                due("27 just so" + told, x.linked(0), 2);
                due("28 just so" + told, x.chain(1), 3);
                due("29 just so" + told, x.group(0), 3);
                due("37 just so" + told, x.ends(), 1);
                x.use(3, 1);
                due("27 no PAIR" + told, x.linked(0), 0);
                due("37 no PAIR" + told, x.ends(), 0);
            }
        }
    }

    /** More candidates than ITEMS. */
    private static void promise23Crowd() {
        CopyBench x = Benches.sheets(1, 8, "4b;5b;6b;7b");
        for (int c = 0; c < 8; c++) {
            x.seat(c, c / 4, c % 4);
        }
        due("41 all have SEATS", x.count(2), 8);
        due("23 NEAR by 1", x.pairs(2, 1), 6 + 4 + 6);
        due("23 NEAR by 9", x.pairs(2, 9), 28);
        ratio("35 six of 28", x.mean(0), x.mean(1), 3, 14);
        x.use(3, 1);
        due("23 PAIRS", x.pairs(0, 0), 16);
        ratio("35 three of 16", x.mean(0), x.mean(1), 3, 16);
        due("14 four of eight", x.itemOf(0, 3), 4);
        CopyBench y = Benches.sheets(8, 2, "0bbbbbbbb;1bbbbbbbb");
        due("23 more ITEMS than candidates", y.pairs(0, 0), 1);
        due("17 all of these", y.alike(0, 1), 8);
        due("13 all of these", y.of(1, 0), 8);
    }

    private static void promise29() {
        CopyBench x = Benches.sheets(4, 8, "0bbbb;3bbbb;1cccc;2cccc");
        due("29 in order as bits: the first", x.group(0), 6);
        due("29 in order as bits: the second", x.group(1), 9);
        due("29 and no more", x.group(2), -5);
        due("23 two GROUPS of two", 10 * x.pairs(3, 0) + x.pairs(4, 0), 22);
        // 0, 1, 2 with one another; 2, 3 too; 3, 0 not.
        CopyBench y = Benches.sheets(8, 4, "0bbbb;1bbbb;2bbbbcccc;3----cccc");
        due("29 three of whom any two are", y.group(0), 7);
        due("29 two, nobody else with both", y.group(1), 12);
        due("29 not two of the three", y.group(2), -5);
        due("23 three in the greatest", y.pairs(4, 0), 3);
        // A ring of four: each with the next one.
        CopyBench ring = Benches.sheets(8, 4, "0bb----bb;1bbbb----;2--bbbb--;3----bbbb");
        int[] due = {3, 6, 9, 12, -5};
        for (int k = 0; k < due.length; k++) {
            due("29 the ring's " + k, ring.group(k), due[k]);
        }
    }

    private static void promise30() {
        CopyBench x = line();
        for (int r = 1; r <= 9; r++) {
            seated("nobody sits", x, r, 1, 1);
        }
        x.seat(7, 9, 9);
        seated("one sits", x, 9, 1, 1);
        x.seat(6, 0, 0);
        seated("two sit", x, 8, 1, 1);
        seated("two sit, near", x, 9, 1, 1);
        CopyBench y = line();
        for (int c = 0; c < 3; c++) {
            y.seat(c, 0, c);
        }
        // Two near ones, if 1 sits between 0 and 2.
        seated("three in a row", y, 1, 1, 3);
        seated("three, all near", y, 2, 1, 1);
        y.seat(0, 0, 3);
        y.seat(1, 0, 0);
        // Seats 0, 2, 3, of which 2 and 3 are near: 1 sits by 0 or 2, and now by nobody.
        seated("as many or more than none", y, 1, 1, 1);
        y.seat(1, 0, 4);
        // Seats 2, 3, 4; 0 between, 1 and 2 at the ends: one suspect pair is near.
        seated("as many or more than one", y, 1, 1, 1);
        CopyBench far = line();
        far.seat(0, 0, 0);
        far.seat(1, 0, 1);
        far.seat(2, 9, 9);
        far.seat(3, 9, 8);
        // Two desks of two; suspect 01, 12, 23: two near ones if 01 and 23 sit so, one (12) or none otherwise.
        seated("two desks", far, 1, 1, 3);
        far.seat(3, -1, 0);
        far.seat(4, 9, 8);
        // 01 and 12 can't both be near: one of them in two of three.
        seated("two desks, 3 elsewhere", far, 1, 2, 3);
    }

    private static void promise30Six() {
        CopyBench x = Benches.sheets(4, 8, "5bbbb;6bbbb;7bbbb");
        for (int c = 0; c < 8; c++) {
            x.seat(c, c, 0);
        }
        seated("of the first six none is suspect with another", x, 1, 1, 1);
        x.seat(0, -1, 0);
        // 1 .. 6 in a row of seats: 5 and 6 side by side in 5 of 15.
        seated("the seventh is one of the first six now", x, 1, 1, 3);
        x.seat(1, -1, 0);
        // 2 .. 7, of whom 5, 6, 7 sit in a row, all suspect: on three seats in a row in 4 of 20 ways to take three.
        seated("three of six", x, 1, 1, 5);
        x.seat(0, 0, 0);
        // 0, 2 .. 6 on seats 0, 2 .. 6: four near ones, 5 and 6 on one of them of 15.
        seated("0 again, 7 no more", x, 1, 4, 15);
        x.use(3, 1);
        seated("by REACH the same suspects", x, 1, 4, 15);
    }

    /** By hand, with longs: the ANSWERS of x and y to items of shares, which end below these sums. */
    private static int drawn(int seed, int[][] ends, int[] worth) {
        int found = 0;
        long state = seed;
        for (int[] end : ends) {
            int[] given = new int[2];
            for (int who = 0; who < 2; who++) {
                state = (int) (state * 1103515245L + 12345L);
                long draw = ((state & 0xFFFFFFFFL) >> 9) % end[3];
                while (draw >= end[given[who]]) {
                    given[who]++;
                }
            }
            found += given[0] == given[1] ? worth[given[0]] : 0;
        }
        return found;
    }

    private static final int[] SEEDS = {0, 1, -1, 12345, 65536, LEAST, LEAST + 1, MOST, MOST - 1, MOST - 5, 1 << 30,
        -(1 << 30), 1103515245, -1103515245};

    private static void promise31() {
        CopyBench x = Benches.sheets(8, 3, "0bbbbbbbb;1cccccccc;2b-------");
        x.use(4, 1);
        x.use(5, 3);
        int[][] ends = new int[8][];
        java.util.Arrays.fill(ends, new int[] {1, 2, 3, 4});
        int[] worth = {1, 3, 3, 3};
        for (int seed : SEEDS) {
            due("31 seed " + seed, x.drawn(seed, 0, 1), drawn(seed, ends, worth));
            due("31 seed " + seed + " again", x.drawn(seed, 1, 0), drawn(seed, ends, worth));
            due("31 seed " + seed + ", one item", x.drawn(seed, 0, 2), drawn(seed, new int[][] {ends[0]}, worth));
        }
        CopyBench none = Benches.sheets(2, 2, "0a-;1-a");
        none.use(4, 2);
        due("31 no item of both", none.drawn(LEAST, 0, 1), 0);
    }

    private static void promise31Shares() {
        CopyBench x = Benches.sheets(8, 8, "0bbbb;1bbb-b;2cccc;3dccb");
        x.use(5, 2);
        x.model(0, 1);
        x.part(0, 1, 3);
        x.part(0, 3, 2);
        x.model(1, 2);
        x.model(2, 3);
        // 0 and 1 gave to items 0, 1, 2: PARTS 1, 3, 1, 2; LEARNT 1, 3, 3, 1; BARE 1, 1, 3, 1.
        int[][] ends = {{1, 4, 5, 7}, {1, 4, 7, 8}, {1, 2, 5, 6}};
        for (int seed : SEEDS) {
            due("31 by SHARES, seed " + seed, x.drawn(seed, 0, 1), drawn(seed, ends, new int[] {0, 2, 2, 2}));
        }
        x.right(0, 1);
        x.right(1, 1);
        x.right(2, 1);
        x.use(4, 1);
        for (int seed : SEEDS) {
            due("31 RIGHT ones, seed " + seed, x.drawn(seed, 0, 1), drawn(seed, ends, new int[] {2, 1, 2, 2}));
        }
    }

    private static void promise32() {
        CopyBench x = Benches.sheets(8, 2, "0bbbbbbbb;1cccccccc");
        x.use(4, 2);
        int[][] ends = new int[8][];
        java.util.Arrays.fill(ends, new int[] {1, 2, 3, 4});
        for (int seed : SEEDS) {
            for (int k = 0; k <= 5; k++) {
                int found = 0;
                for (int i = 0; i < 6; i++) {
                    found += drawn(seed + i, ends, new int[] {2, 1, 1, 1}) >= k ? 1 : 0;
                }
                int by = found == 0 ? 6 : found == 4 ? 2 : 6 % found == 0 ? found : 1;
                ratio("32 seed " + seed + " k " + k, x.chance(seed, 0, 1, k, 0), x.chance(seed, 0, 1, k, 1), found / by,
                    6 / by);
            }
        }
        x.gives(1, 0, -1);
        x.gives(0, 7, -1);
        int[][] fewer = java.util.Arrays.copyOf(ends, 6);
        for (int seed : SEEDS) {
            int found = 0;
            for (int i = 0; i < 6; i++) {
                found += drawn(seed + i, fewer, new int[] {2, 1, 1, 1}) >= 2 ? 1 : 0;
            }
            long below = x.chance(seed, 0, 1, 2, 1);
            due("32 of ITEMS of both, seed " + seed, x.chance(seed, 0, 1, 2, 0) * 6, found * below);
            due("32 in the other order, seed " + seed, x.chance(seed, 1, 0, 2, 0) * 6, found * below);
        }
        ratio("32 k 0 is certain", x.chance(MOST, 0, 1, 0, 0), x.chance(MOST, 0, 1, 0, 1), 1, 1);
        ratio("32 the greatest k", x.chance(LEAST, 0, 1, MOST, 0), x.chance(LEAST, 0, 1, MOST, 1), 0, 1);
        due("32 k below 0", x.chance(0, 0, 1, -1, 0), NO);
    }

    private static void promise34() {
        CopyBench x = Benches.sheets(1, 2, "0b;1b");
        // 3/16 by FREE, 1/3 by GIVEN and BOUND, 1/4 by SOURCE.
        int[][] due = {
            // level, SUSPECT is seen: how many, the least; not SUSPECT is seen: how many, the least
            {187, 0, -5, 4, 0}, {188, 1, 0, 3, 1}, {249, 1, 0, 3, 1}, {250, 2, 0, 2, 1}, {333, 2, 0, 2, 1},
            {334, 4, 0, 0, -5}};
        for (int[] row : due) {
            x.use(2, row[0]);
            x.use(0, row[0] % 4);
            for (int is = 0; is < 2; is++) {
                x.see(-1, 0, true);
                x.see(is, 1 - is, is == 0);
                due("34 LEVEL " + row[0] + ", how many", x.fits(0), row[1 + 2 * is]);
                due("34 LEVEL " + row[0] + ", the least", x.fits(1), row[2 + 2 * is]);
            }
        }
        x.see(1, 0, true);
        due("34 one holds, one doesn't", x.fits(0), 0);
        x.use(2, 250);
        x.see(-1, 0, true);
        x.see(0, 1, false);
        x.part(0, 0, 3);
        x.model(0, 1);
        // PARTS 3, 1, 1, 1: 3/36, 3/9, 1/6, 1/3.
        due("34 GIVEN, BOUND", 10 * x.fits(0) + x.fits(1), 21);
        x.see(-1, 0, true);
        due("34 nothing seen", 10 * x.fits(0) + x.fits(1), 40);
        due("34 nobody, nothing seen", new CopyBench().fits(0), 4);
        x.use(3, 1);
        x.see(0, 1, true);
        due("34 no PAIR is not SUSPECT", 10 * x.fits(0) + x.fits(1), -5);
        x.see(-1, 0, true);
        x.see(1, 0, false);
        due("34 it was seen so", 10 * x.fits(0) + x.fits(1), 40);
        CopyBench five = Benches.sheets(4, 3, "0bbbb;1bbbb;2cccc");
        five.see(0, 1, true);
        five.see(1, 2, false);
        five.see(2, 0, false);
        five.see(1, 0, true);
        due("34 four fit", five.fits(0), 4);
        five.see(2, 1, true);
        due("34 the fifth does not", five.fits(0), 0);
        for (int rule = 1; rule < 4; rule++) {
            CopyBench z = Benches.sheets(2, 3, "0bb;1bb;2--");
            // 9/256, 1/9, 1/16, 1/9, each thrice (by MISTAKES, too, at RANK 0).
            z.use(1, rule);
            z.use(2, 188);
            z.see(1, 0, true);
            due("34 by the RULE in use, " + rule, 10 * z.fits(0) + z.fits(1), 20);
        }
    }

    private static void promise35() {
        CopyBench x = Benches.sheets(8, 8, "0bbbbbbbb;1bbbbbbbb;2bbbb");
        x.use(5, 4);
        // 32, 16, 16 by 28.
        ratio("35 of 28", x.mean(0), x.mean(1), 16, 7);
        CopyBench two = Benches.with(1, 2);
        ratio("35 none alike", two.mean(0), two.mean(1), 0, 1);
        CopyBench one = Benches.with(1, 1);
        due("35 one alone", one.mean(0), NO);
        due("35 one alone, below", one.mean(1), NO);
        CopyBench near = Benches.sheets(2, 3, "0bb;1bb;2b");
        near.seat(0, 0, 0);
        near.seat(1, 0, 2);
        near.use(3, 1);
        due("35 none near", near.mean(0), NO);
        near.use(3, 2);
        ratio("35 one pair near", near.mean(0), near.mean(1), 2, 1);
        near.seat(2, 0, 1);
        ratio("35 all near", near.mean(0), near.mean(1), 4, 3);
    }

    private static void promise37() {
        CopyBench x = Benches.sheets(4, 8, "0bbbb;1bbbb;2cccc;3dddd");
        due("37 no plan", x.ends(), 1);
        for (int k = 4; k < 8; k++) {
            x.plan(3, k, 0);
        }
        due("37 four rows", x.ends(), 15);
        x.plan(3, 2, 7);
        x.plan(3, 3, 2);
        due("37 as they are then", x.ends(), 28);
        x.plan(0, 7, 0);
        due("37 what was given on stays", x.ends(), 21);
        x.plan(0, 6, 0);
        due("37 the eighth row goes, too", x.ends(), 15);
        due("37 nothing is so now", x.pairs(1, 0), 1);
        x.plan(-1, 0, 0);
        for (int item = 0; item < 4; item++) {
            x.plan(1, item, 1);
        }
        due("37 all RIGHT, R 0", x.ends(), 0);
        x.use(4, 1);
        due("37 all RIGHT, R 1", x.ends(), 1);
        x.plan(-1, 0, 0);
        for (int item = 0; item < 4; item++) {
            x.plan(2, item, 1);
            x.part(item, 1, 3);
        }
        x.plan(2, 0, 0);
        // By EVEN and PARTS 1, 3, 1, 1, R 1: 1/4 and thrice 1/3, which is 9.3 thousandths.
        x.use(2, 9);
        due("37 not yet", x.ends(), 0);
        x.use(2, 10);
        due("37 just so", x.ends(), 1);
        x.use(3, 1);
        due("37 no PAIRS", x.ends(), 0);
        due("37 nobody", new CopyBench().ends(), 0);
    }

    /** Each row of a full plan counts, its v, too, and an image keeps it. */
    private static void promise37Full() {
        for (int row = 0; row < 8; row++) {
            CopyBench x = Benches.sheets(8, 8, "1bbbb;2bbbb");
            for (int i = 0; i < 8; i++) {
                // All but one row change nothing: nobody gave an answer to the last ITEM.
                due("36 a row comes", i == row ? x.plan(3, 7, 1) : x.plan(1, 7, 3), i + 1);
            }
            due("37 the one row of eight, " + row, x.ends(), 3);
            x.image();
            x.plan(-1, 0, 0);
            due("37 an empty plan", x.ends(), 1);
            for (int i = 0; i < 8; i++) {
                x.plan(0, 2, 0);
            }
            due("37 another plan", x.ends(), 0);
            x.undo();
            due("40 the plan, row " + row, x.ends(), 3);
            x.gives(7, 0, 2);
            due("37 whatever was there", x.ends(), 3);
        }
    }

    /** What goes by a row, and nothing else. */
    private static void promise37Rows() {
        // 81/65536 by EVEN.
        CopyBench x = Benches.sheets(4, 3, "0bbbb;1bbbb;2bbbb");
        for (int v : new int[] {LEAST, -1, 0, 1, 2, 3, 4, MOST}) {
            x.plan(-1, 0, 0);
            x.plan(0, 2, v);
            x.use(2, 2);
            due("37 no ANSWERS, v " + v, x.ends(), 1);
            x.use(2, 1);
            due("37 no ANSWERS, v " + v + ", by a low LEVEL", x.ends(), 0);
        }
        CopyBench y = Benches.sheets(1, 2, "0b;1b");
        y.part(0, 0, 3);
        y.part(0, 3, 3);
        y.plan(1, 0, 2);
        // RIGHT is c, the KIND still EVEN: 3/16; were it LEARNT, 11/36.
        y.use(2, 187);
        due("37 another RIGHT, the KIND stays", y.ends(), 0);
        y.use(2, 188);
        due("37 another RIGHT, just so", y.ends(), 1);
        y.plan(-1, 0, 0);
        y.plan(2, 0, 1);
        // PARTS 3, 1, 1, 3, RIGHT still a: 11/64; were b RIGHT, it would be certain.
        y.use(2, 171);
        due("37 TOLD", y.ends(), 0);
        y.use(2, 172);
        due("37 TOLD, the RIGHT one stays", y.ends(), 1);
        y.plan(2, 0, 0);
        due("37 TOLD, then EVEN", y.ends(), 0);
        y.plan(2, 0, 2);
        y.plan(1, 0, 3);
        y.use(2, 305);
        due("37 LEARNT", y.ends(), 0);
        y.use(2, 306);
        due("37 LEARNT, just so", y.ends(), 1);
        y.plan(2, 0, 3);
        y.use(2, 188);
        due("37 BARE", y.ends(), 1);
        y.use(3, 1);
        y.seat(0, 3, 3);
        y.seat(1, 4, 4);
        y.plan(3, 0, 1);
        due("37 the SEATS stay", y.ends(), 1);
        y.plan(0, 1, 0);
        due("37 none alike at last", y.ends(), 0);
    }
}
