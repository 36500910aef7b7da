import java.math.BigInteger;
import java.util.List;
import java.util.function.Consumer;
import java.util.function.Supplier;

/** Promises together: what one call changes for another, and what it leaves as it is. */
public final class TogetherTest {
    private static final Due DUE = new Due("TogetherTest");

    public static void main(String[] args) {
        noMoreSuspect();
        suspectThen();
        asked();
        fitsThen();
        allLeft();
        seatedByReach();
        planLeavesPairs();
        planByUses();
        twentyEight();
        stepsOfTwentyEight();
        behindUndo();
        imageOfSeen();
        imageOfPlan();
        copies();
        greatestShares();
        closeOnes();
        closeLevel();
        farApart();
        DUE.end();
    }

    private static void due(String call, long got, long want) {
        DUE.is(call, got, want);
    }

    private static void ratio(String call, long above, long below, long wantAbove, long wantBelow) {
        due(call + ", above", above, wantAbove);
        due(call + ", below", below, wantBelow);
    }

    /** 0 and 1 of three are alike by 9/256, which is 35 thousandths and more. */
    private static CopyBench two() {
        CopyBench x = Benches.sheets(4, 3, "0bb--;1bb--;2--cd");
        x.seat(0, 0, 0);
        x.seat(1, 0, 1);
        x.seat(2, 5, 5);
        x.see(1, 0, true);
        return x;
    }

    /** Of the suspects all that can be asked, each time as the first that is asked behind a change. */
    private static void look(String told, CopyBench x, boolean are) {
        due("23 SUSPECT " + told, x.pairs(1, 0), are ? 1 : 0);
        due("23 GROUPS " + told, x.pairs(3, 0), are ? 1 : 0);
        due("23 the greatest " + told, x.pairs(4, 0), are ? 2 : 0);
        due("24 the first " + told, x.pair(0, 2), are ? 1 : x.pairs(0, 0) == 0 ? -2 : 0);
        due("27 who " + told, x.linked(1), are ? 1 : x.count(1) == 0 ? -1 : 0);
        due("28 CHAIN " + told, x.chain(0), are ? 3 : x.count(1) == 0 ? -1 : 1);
        due("29 GROUP " + told, x.group(0), are ? 3 : -5);
        due("37 ENDS " + told, x.ends(), are ? 1 : 0);
    }

    private static void turns(String told, Supplier<CopyBench> state, boolean are, Consumer<CopyBench> change) {
        CopyBench x = state.get();
        look("ahead: " + told, x, are);
        change.accept(x);
        look("behind: " + told, x, !are);
        for (int asked = 0; asked < 8; asked++) {
            CopyBench y = state.get();
            first(y, asked);
            change.accept(y);
            due("the first that is asked, " + asked + ", behind: " + told, first(y, asked), first(x, asked));
        }
    }

    private static long first(CopyBench x, int asked) {
        switch (asked) {
            case 0: return x.pairs(1, 0);
            case 1: return x.pairs(3, 0);
            case 2: return x.pair(0, 2);
            case 3: return x.linked(1);
            case 4: return x.chain(0);
            case 5: return x.group(0);
            case 6: return x.seated(1, 1);
            default: return x.ends();
        }
    }

    private static void noMoreSuspect() {
        turns("2 items", TogetherTest::two, true, x -> x.items(4));
        turns("3 right", TogetherTest::two, true, x -> x.right(0, 1));
        // LEARNT 1, 3, 1, 1: 11/36 for 3/16.
        turns("4 model", TogetherTest::two, true, x -> x.model(0, 2));
        turns("5 part", () -> {
            CopyBench x = two();
            x.model(1, 1);
            return x;
        }, true, x -> x.part(1, 1, 3));
        turns("6 candidate", () -> {
            CopyBench x = Benches.sheets(4, 2, "0bb;1bb");
            x.use(1, 1);
            return x;
        }, true, x -> x.candidate());
        turns("7 gives", TogetherTest::two, true, x -> x.gives(0, 1, -1));
        turns("7 gives another", TogetherTest::two, true, x -> x.gives(1, 1, 2));
        turns("8 seat", TogetherTest::near, true, x -> x.seat(1, 5, 6));
        turns("8 no seat", TogetherTest::near, true, x -> x.seat(0, -1, 0));
        turns("10 read", TogetherTest::two, true, x -> Benches.tell(x, "0-"));
        turns("11 the SUPPOSITION", TogetherTest::two, true, x -> x.use(0, 1));
        turns("11 the RULE", TogetherTest::two, true, x -> x.use(1, 1));
        turns("11 the LEVEL", TogetherTest::two, true, x -> x.use(2, 35));
        turns("11 the REACH", () -> {
            CopyBench x = two();
            x.seat(1, 5, 6);
            return x;
        }, true, x -> x.use(3, 1));
        // By R 1 both alike in both is 1/16, RIGHT ones or not.
        turns("11 R", TogetherTest::two, true, x -> x.use(4, 1));
        turns("40 undo", () -> {
            CopyBench x = two();
            x.gives(2, 2, -1);
            x.gives(0, 1, -1);
            x.image();
            x.gives(0, 1, 1);
            return x;
        }, true, x -> x.undo());
    }

    private static CopyBench near() {
        CopyBench x = two();
        x.use(3, 1);
        return x;
    }

    private static void suspectThen() {
        turns("11 W", () -> {
            CopyBench x = two();
            x.use(4, 1);
            return x;
        }, false, x -> x.use(5, 2));
        turns("11 the LEVEL, greater", () -> {
            CopyBench x = two();
            x.use(2, 35);
            return x;
        }, false, x -> x.use(2, 36));
        turns("8 seat", () -> {
            CopyBench x = near();
            x.seat(1, 8, 1);
            return x;
        }, false, x -> x.seat(1, 1, 1));
        turns("10 read", () -> {
            CopyBench x = two();
            x.gives(1, 1, 0);
            return x;
        }, false, x -> Benches.tell(x, "1bb"));
        turns("40 undo", () -> {
            CopyBench x = two();
            x.image();
            x.items(2);
            return x;
        }, false, x -> x.undo());
    }

    /** To ask how a plan ends, or which suppositions fit, changes nothing for what is asked then. */
    private static void asked() {
        for (int call = 0; call < 7; call++) {
            CopyBench x = two();
            x.plan(0, 0, 0);
            x.plan(3, 2, 1);
            long before = first(x, call);
            due("37 the plan ends so", x.ends(), 1);
            due("37 asked, then " + call, first(x, call), before);
            x.plan(3, 0, 1);
            due("37 another end", x.ends(), 3);
            due("37 asked again, then " + call, first(x, call), before);
            x.plan(-1, 0, 0);
            due("34 by FREE alone", x.fits(0), 1);
            due("34 asked, then " + call, first(x, call), before);
            due("37 asked, then no plan", x.ends(), 1);
        }
    }

    /** What is seen fits by FREE alone, and then by none. */
    private static void fitsThen() {
        List<Consumer<CopyBench>> changes = List.of(x -> x.right(0, 1), x -> x.model(0, 2), x -> x.gives(0, 1, -1),
            x -> Benches.tell(x, "1ab"), x -> x.use(1, 1), x -> x.use(2, 35), x -> x.use(4, 1), x -> x.use(3, 4),
            x -> x.see(2, 1, true));
        for (int i = 0; i < changes.size(); i++) {
            CopyBench x = two();
            x.seat(1, 0, 5);
            due("34 ahead of change " + i, x.fits(0), 1);
            due("34 the least ahead of it", x.fits(1), 0);
            changes.get(i).accept(x);
            due("34 behind change " + i, x.fits(0), 0);
            due("34 the least behind it", x.fits(1), -5);
        }
        CopyBench y = two();
        y.use(0, 3);
        due("34 whatever is in use", 10 * y.fits(0) + y.fits(1), 10);
        y.use(2, 63);
        due("34 SOURCE, too", 10 * y.fits(0) + y.fits(1), 20);
        y.use(2, 112);
        due("34 all of them", 10 * y.fits(0) + y.fits(1), 40);
        y.use(2, 50);
        for (int call = 0; call < 8; call++) {
            CopyBench other = two();
            other.use(0, 3);
            long before = first(other, call);
            due("34 FREE would", other.fits(1), 0);
            due("34 by BOUND, asked, then " + call, first(other, call), before);
            due("34 nobody is by BOUND", other.pairs(1, 0), 0);
        }
        y.use(2, 112);
        y.see(2, 0, false);
        due("34 as it is seen", 10 * y.fits(0) + y.fits(1), 40);
        y.gives(2, 0, 1);
        y.gives(2, 1, 1);
        due("34 not any more", 10 * y.fits(0) + y.fits(1), -5);
    }

    /** Behind items() nothing is left of what was asked before it. */
    private static void allLeft() {
        CopyBench x = two();
        due("26 a RANK", x.rank(0, 1), 0);
        due("23 SUSPECT", x.pairs(1, 0), 1);
        x.items(4);
        due("23 none is SUSPECT", x.pairs(1, 0), 0);
        due("23 no GROUPS", x.pairs(3, 0) + x.pairs(4, 0), 0);
        due("29 no GROUP", x.group(0), -5);
        due("24 no PAIR", x.pair(0, 2), -2);
        ratio("30 nobody sits", x.seated(1, 0), x.seated(1, 1), 1, 1);
        due("37 no ENDS", x.ends(), 0);
        due("34 nothing seen", x.fits(0), 4);
        due("35 no MEAN", x.mean(0), CopyBench.NO);
        x.candidate();
        due("28 itself", x.chain(0), 1);
        due("27 nobody", x.linked(0), 0);
    }

    /** SUSPECT PAIRS are those of now: by REACH only those who sit near now. */
    private static void seatedByReach() {
        CopyBench x = Benches.sheets(4, 3, "0bbbb;1bbbb;2bbbb");
        x.seat(0, 0, 0);
        x.seat(1, 0, 1);
        x.seat(2, 9, 9);
        ratio("30 all are SUSPECT: some two are near", x.seated(1, 0), x.seated(1, 1), 1, 1);
        x.use(3, 1);
        due("23 one is SUSPECT", x.pairs(1, 0), 1);
        ratio("30 0 and 1 are", x.seated(1, 0), x.seated(1, 1), 1, 3);
        x.seat(2, 0, 3);
        ratio("30 0 and 1 are, by r beyond REACH", x.seated(2, 0), x.seated(2, 1), 2, 3);
        x.use(3, 2);
        // 01 and 12 near by 2, and 02 not: as many, if 1 sits between.
        ratio("30 01 and 12 are", x.seated(2, 0), x.seated(2, 1), 1, 3);
        ratio("30 01 and 12 are, by 1", x.seated(1, 0), x.seated(1, 1), 2, 3);
        x.seat(1, 9, 0);
        due("23 nobody is near", x.pairs(0, 0), 0);
        ratio("30 none is SUSPECT", x.seated(9, 0), x.seated(9, 1), 1, 1);
        ratio("30 none is SUSPECT, by 3", x.seated(3, 0), x.seated(3, 1), 1, 1);
    }

    /** A PAIR stays one, whatever ANSWERS go: so how many PAIRS there are stays, and the SEATS do. */
    private static void planLeavesPairs() {
        for (int reach = 0; reach < 10; reach += 9) {
            for (int rule = 1; rule < 4; rule++) {
                CopyBench x = Benches.sheets(3, 3, "0bbb;1bbb;2c--");
                for (int c = 0; c < 3; c++) {
                    x.seat(c, c, c);
                }
                x.use(1, rule);
                x.use(3, reach);
                x.plan(0, 2, 0);
                // 27/4096 thrice is 19.8 thousandths.
                x.use(2, 19);
                due("37 not by RULE " + rule + ", REACH " + reach, x.ends(), 0);
                x.use(2, 20);
                due("37 just so by RULE " + rule + ", REACH " + reach, x.ends(), 1);
            }
        }
        CopyBench y = Benches.sheets(4, 4, "0bbbb;1bbbb;2cccc;3cccc");
        int[][] seats = {{0, 0}, {0, 1}, {9, 9}, {5, 5}};
        for (int c = 0; c < 4; c++) {
            y.seat(c, seats[c][0], seats[c][1]);
        }
        y.use(3, 1);
        y.plan(3, 2, 0);
        due("37 whose ANSWERS come does not sit nearer", y.ends(), 1);
        y.plan(-1, 0, 0);
        y.plan(3, 1, 2);
        due("37 who has other ANSWERS is not SUSPECT any more", y.ends(), 0);
        y.plan(3, 0, 3);
        due("37 but sits where it sat", y.ends(), 1);
        due("37 nothing became so", y.of(1, 3) + 10 * y.answer(1, 3), 11);
    }

    /** A plan ends by all that is in use. */
    private static void planByUses() {
        CopyBench x = Benches.sheets(2, 2, "0bb;1bb");
        x.use(4, 1);
        x.plan(1, 0, 1);
        // One RIGHT, one WRONG: by W 1 both alike, 1/16; by W 2 not two RIGHT ones, 15/256.
        x.use(2, 60);
        due("37 by R 1, W 1", x.ends(), 0);
        x.use(5, 2);
        due("37 by R 1, W 2", x.ends(), 1);
        x.use(4, 2);
        due("37 by R 2, W 2", x.ends(), 0);
        x.use(5, 3);
        due("37 by R 2, W 3", x.ends(), 1);
        x.use(2, 58);
        due("37 by a lower LEVEL", x.ends(), 0);
        x.use(4, 0);
        // By R 0: alike WRONG in one of two, by 1 - (13/16)^2.
        x.use(2, 339);
        due("37 by R 0", x.ends(), 0);
        x.use(2, 340);
        due("37 by R 0, just so", x.ends(), 1);
        CopyBench y = Benches.sheets(2, 3, "0bb;1bb;2b-");
        y.plan(3, 2, 0);
        y.use(2, 100);
        int[] ends = {3, 0, 0, 3};
        for (int rule = 0; rule < 4; rule++) {
            y.use(1, rule);
            due("37 by RULE " + rule, y.ends(), ends[rule]);
        }
    }

    /** As many PAIRS as there can be. */
    private static void twentyEight() {
        CopyBench x = Benches.sheets(4, 8, "3bbbb;6bbbb");
        int[] level = {2, 35, 35, 35};
        for (int rule = 0; rule < 4; rule++) {
            x.use(1, rule);
            x.use(2, level[rule] - 1);
            // 81/65536, and 28 times that.
            due("23 none of 28 by RULE " + rule, x.pairs(1, 0), 0);
            due("24 nor the first by RULE " + rule, x.pair(0, 2), 0);
            x.use(2, level[rule]);
            due("23 one of 28 by RULE " + rule, x.pairs(1, 0), 1);
            due("24 which is the first by RULE " + rule, x.pair(0, 2) + x.pair(1, 2), 1);
        }
        CopyBench all = Benches.with(1, 8);
        for (int c = 0; c < 8; c++) {
            all.gives(c, 0, 3);
        }
        int[][] due = {{0, 187, 0}, {0, 188, 28}, {1, 500, 0}, {2, 500, 0}, {3, 187, 0}, {3, 188, 28}};
        for (int[] row : due) {
            all.use(1, row[0]);
            all.use(2, row[1]);
            due("23 28 alike by RULE " + row[0] + ", LEVEL " + row[1], all.pairs(1, 0), row[2]);
            due("24 the last by RULE " + row[0] + ", LEVEL " + row[1], all.pair(27, 2), row[2] / 28);
            due("29 all by RULE " + row[0] + ", LEVEL " + row[1], all.group(0), row[2] == 0 ? -5 : 255);
        }
    }

    /** 243/1048576 and 81/65536 ahead of 26 that are certain. */
    private static void stepsOfTwentyEight() {
        CopyBench x = Benches.sheets(5, 8, "0bbbb-;1bbbb-;4ccccc;5ccccc");
        // 28 times the first 6.5 thousandths, the second 34.6, 27 times 33.4; 28 times the second by two 17.3.
        int[][] due = {{6, 0, 0, 0}, {7, 1, 1, 1}, {17, 1, 1, 1}, {18, 1, 1, 2}, {33, 1, 1, 2}, {34, 1, 2, 2}, {35, 2, 2, 2}};
        for (int[] row : due) {
            for (int rule = 1; rule < 4; rule++) {
                x.use(1, rule);
                x.use(2, row[0]);
                due("23 two of 28 by RULE " + rule + ", LEVEL " + row[0], x.pairs(1, 0), row[rule]);
            }
        }
        due("26 the lesser first", 10 * x.rank(5, 4) + x.rank(0, 1), 1);
    }

    /** Who comes behind an undo has nothing of the one that had its number. */
    private static void behindUndo() {
        CopyBench x = Benches.sheets(2, 2, "0ab;1ab");
        x.image();
        x.candidate();
        x.candidate();
        Benches.tell(x, "2cd;3dd");
        x.seat(2, 3, 3);
        x.seat(3, 4, 4);
        due("40 two", x.undo(), 2);
        due("40 nobody else", x.answer(2, 0), -1);
        due("40 the seat is free", x.seat(0, 3, 3), 1);
        due("40 the third", x.candidate(), 2);
        due("40 has no ANSWERS", x.of(2, 0), 0);
        due("40 nor a SEAT", x.of(2, 2) + x.of(2, 3), -10);
        due("40 nor is it counted", 10 * x.itemOf(1, 2) + x.count(2), 21);
        due("40 the fourth", x.candidate(), 3);
        due("40 has no ANSWERS either", x.of(3, 0), 0);
        due("40 nor a SEAT either", x.of(3, 2) + x.of(3, 3), -10);
        due("40 the other seat is free, too", x.seat(1, 4, 4), 1);
        CopyBench y = new CopyBench();
        y.image();
        y.feed('0');
        y.candidate();
        y.seat(0, 0, 0);
        y.tape(5, 0, 1);
        due("40 nobody", y.undo(), 0);
        due("40 the text stays with nobody, too", y.count(5), 1);
        due("40 the tape, too", y.peek(5, 0), 0);
        due("40 nobody sits", y.count(2), 0);
        y.items(8);
        due("40 the image has four items still", 10 * y.undo() + y.count(0), 4);
        due("40 which may be told", y.right(3, 3) + y.right(4, 3), -1);
    }

    /** Five rows, of which one is of two others than the rest, and might be otherwise. */
    private static void imageOfSeen() {
        for (int row = 0; row < 5; row++) {
            CopyBench x = Benches.sheets(4, 8, "5bbbb;6bbbb;7cccc");
            for (int i = 0; i < 5; i++) {
                x.see(i == row ? 6 : 0, i == row ? 5 : 7, i == row);
            }
            due("34 all five are so, " + row, x.fits(0), 4);
            x.image();
            for (int i = 0; i < 3; i++) {
                x.see(-1, 0, true);
                for (int k = 0; k < 5; k++) {
                    x.see(i == 0 ? 7 : 6, i == 1 ? 7 : 5, i != 2);
                }
                due("34 others are not, " + row, x.fits(0), 0);
                x.undo();
                due("40 all five are so again, " + row, x.fits(0), 4);
                due("40 there are five, " + row, x.count(3), 5);
            }
        }
    }

    /** Eight rows, of which one matters; then eight others. */
    private static void imageOfPlan() {
        for (int row = 0; row < 8; row++) {
            CopyBench x = Benches.sheets(4, 8, "1bbbb;2bbbb;6aaaa");
            for (int i = 0; i < 8; i++) {
                x.plan(i == row ? 3 : 0, i == row ? 5 : 4, i == row ? 1 : 0);
            }
            due("37 three then, " + row, x.ends(), 3);
            x.image();
            int[][] others = {{0, 5, 1}, {3, 6, 1}, {3, 5, 6}, {3, 4, 1}};
            int[] ends = {1, 3, 1, 3};
            for (int k = 0; k < others.length; k++) {
                x.plan(-1, 0, 0);
                for (int i = 0; i < 8; i++) {
                    x.plan(others[k][0], others[k][1], others[k][2]);
                }
                due("37 another plan, " + row, x.ends(), ends[k]);
                x.gives(4 + k % 3, 0, 1);
                x.undo();
                due("40 the plan again, " + row, x.ends(), 3);
                x.plan(-1, 0, 0);
                x.undo();
                x.gives(5, 3, 1);
                x.gives(4, 2, 2);
                due("40 by what is there, " + row, x.ends(), 3);
                x.undo();
            }
        }
    }

    /** By a plan all ANSWERS come, the last one's, too, and where there is none, none comes. */
    private static void copies() {
        for (int n = 1; n < 9; n++) {
            CopyBench x = Benches.with(n, 3);
            for (int item = 0; item < n; item++) {
                x.gives(0, item, 1);
                x.gives(1, item, item == n - 1 ? 2 : 1);
            }
            x.gives(2, n - 1, 1);
            x.model(n - 1, 1);
            x.part(n - 1, 0, 3);
            x.use(2, 84);
            x.use(5, 1);
            // 3/36 is 83.3 thousandths: the last ITEM, and alike there.
            due("37 0 and 2 of " + n, x.pairs(1, 0), n == 1 ? 1 : n > 2 ? 2 : 1);
            x.plan(3, 1, 2);
            due("37 all three in the last of " + n, x.ends(), 3);
            x.plan(-1, 0, 0);
            x.plan(3, 2, 1);
            x.plan(0, 0, 0);
            due("37 those two in all of " + n, x.ends(), 1);
            x.plan(-1, 0, 0);
            x.gives(0, n - 1, -1);
            x.gives(1, n - 1, 1);
            x.plan(3, 2, 0);
            x.plan(3, 1, 0);
            x.plan(0, 0, 0);
            due("37 none comes to the last of " + n, x.ends(), n > 2 ? 1 : 0);
        }
        for (int item = 0; item < 8; item++) {
            for (int v = 0; v < 4; v++) {
                CopyBench x = Benches.with(8, 2);
                x.gives(0, item, v);
                x.gives(1, item, v);
                x.right(item, (v + 1) % 4);
                x.use(2, 200);
                due("37 WRONG, " + v, x.ends(), 1);
                x.plan(1, item, v);
                due("37 RIGHT, " + v, x.ends(), 0);
                x.plan(1, item, (v + 2) % 4);
                due("37 another one RIGHT, " + v, x.ends(), 1);
            }
        }
    }

    /** All eight gave the same ANSWER: SHARES 1, 9, 1, 1 by LEARNT, 1, 7, 1, 1 by BARE. */
    private static void greatestShares() {
        CopyBench x = Benches.with(1, 8);
        for (int c = 0; c < 8; c++) {
            x.gives(c, 0, 1);
        }
        x.model(0, 2);
        long[][] learnt = {{83, 144}, {83, 121}, {3, 4}, {9, 11}};
        long[][] bare = {{51, 100}, {17, 27}, {7, 10}, {7, 9}};
        for (int by = 0; by < 4; by++) {
            ratio("18 LEARNT by " + by, x.odds(0, 7, by, 0), x.odds(0, 7, by, 1), learnt[by][0], learnt[by][1]);
        }
        x.model(0, 3);
        for (int by = 0; by < 4; by++) {
            ratio("18 BARE by " + by, x.odds(7, 0, by, 0), x.odds(7, 0, by, 1), bare[by][0], bare[by][1]);
        }
        x.right(0, 1);
        x.use(4, 2);
        // RIGHT: alike by 7/10 twice.
        ratio("19 BARE, all RIGHT", x.just(0, 7, 0, 2, 0), x.just(0, 7, 0, 2, 1), 49, 100);
        x.model(0, 2);
        ratio("19 LEARNT, all RIGHT", x.just(0, 7, 0, 2, 0), x.just(0, 7, 0, 2, 1), 9, 16);
        ratio("19 GIVEN, all RIGHT", x.just(0, 7, 1, 2, 0), x.just(0, 7, 1, 2, 1), 1, 1);
    }

    /** Eight ITEMS of KINDS, with the PARTS of those that are TOLD, and eight candidates. */
    private static CopyBench told(String kinds, String parts, int right, int wrong, String... sheets) {
        CopyBench x = Benches.with(8, 8);
        int part = 0;
        for (int item = 0; item < 8; item++) {
            int kind = kinds.charAt(item) - '0';
            x.model(item, kind);
            for (int answer = 0; answer < 4 && kind == 1; answer++) {
                x.part(item, answer, parts.charAt(part) - '0');
                part++;
            }
        }
        for (int c = 0; c < 8; c++) {
            due("10 a sheet", Benches.tell(x, c + sheets[c]), 1);
        }
        x.use(4, right);
        x.use(5, wrong);
        return x;
    }

    /** ODDS that are almost like ones: what is less by a millionth part is less. */
    private static void closeOnes() {
        CopyBench x = told("33320132", "1212", 2, 2, "dbbdbcdb", "acddbcab", "acbdbcab", "dab-bcab", "dcddbccb", "dcbabccb",
            "ccadbcc-", "ccbdbcca");
        ratio("25 the lesser", x.pairOdds(14, 0), x.pairOdds(14, 1), 79555529, 756250000);
        ratio("25 the next", x.pairOdds(15, 0), x.pairOdds(15, 1), 1193333, 11343750);
        due("26 the lesser's RANK", x.rank(0, 4), 14);
        due("26 the next one's RANK", x.rank(0, 2), 15);
        CopyBench y = told("30210231", "23123232", 2, 1, "bdcd-bac", "bdcdbac-", "cdcddacc", "bdcdbb-c", "bdcdbbbc", "bcaddbcc",
            "dd-dbbcc", "bdc-b-cc");
        ratio("18 by 2, one way", y.odds(2, 4, 2, 0), y.odds(2, 4, 2, 1), 1118232 / 72, 3484800 / 72);
        ratio("18 by 2, the other", y.odds(4, 2, 2, 0), y.odds(4, 2, 2, 1), 1118233, 3484800);
        due("20 less by one in 3484800", y.source(4, 2), 2);
        due("20 in the other order", y.source(2, 4), 2);
        CopyBench z = told("23123121", "221323213112", 2, 4, "dabcb-cb", "dcbcbcdb", "dcbcbdbb", "dcbcbcdb", "dbb-cdba",
            "dcacbcdb", "ccbcdcdb", "bcbcbcdb");
        z.use(0, 3);
        ratio("18 by 3, one way", z.odds(2, 7, 3, 0), z.odds(2, 7, 3, 1), 771299, 3136320);
        ratio("18 by 3, the other", z.odds(7, 2, 3, 0), z.odds(7, 2, 3, 1), 771298 / 22, 3136320 / 22);
        int rank = z.rank(7, 2);
        ratio("25 the lesser of both", z.pairOdds(rank, 0), z.pairOdds(rank, 1), 771298 / 22, 3136320 / 22);
        CopyBench key = told("00011200", "31132112", 2, 4, "bdbbbbbb", "bdbb-dbb", "bccbbcbb", "dddbd-bd", "-dbbbccb", "b-bbbcba",
            "bcdbacbb", "ddacbbdb");
        ratio("21 without the first", key.without(5, 6, 0, 0), key.without(5, 6, 0, 1), 21272039, 190316544);
        ratio("21 without the fourth", key.without(5, 6, 3, 0), key.without(5, 6, 3, 1), 15954029, 142737408);
        due("22 the greatest", key.key(5, 6), 0);
    }

    /** Above 427 thousandths by 83 in 3499200000000. */
    private static void closeLevel() {
        CopyBench x = told("13311013", "2232133313331211", 1, 4, "dbcaac-c", "bbcbdddc", "bbdcdb-c", "dccabbdc", "d-cbdbdc",
            "dbcadbdc", "dbabdbdb", "dbcbdbdc");
        int rank = x.rank(2, 6);
        ratio("25 of the pair", x.pairOdds(rank, 0), x.pairOdds(rank, 1), 1494158400083L, 3499200000000L);
        x.use(2, 427);
        due("23 it is not SUSPECT", x.pair(rank, 2), 0);
        due("23 nor counted", x.pairs(1, 0), rank);
        x.use(2, 428);
        due("23 it is SUSPECT", x.pair(rank, 2), 1);
        due("23 it is counted", x.pairs(1, 0), rank + 1);
    }

    /** Denominators whose products are beyond a long. */
    private static void farApart() {
        CopyBench x = told("13012110", "1133123312131132", 2, 3, "dacbcbab", "-dcbcdbb", "dbcbcbbb", "adcdcbbb", "dacadbbb",
            "dbabc-bb", "-babbabb", "-bcccabb");
        ratio("25 the lesser", x.pairOdds(7, 0), x.pairOdds(7, 1), 871426613149L, 22941912268800L);
        ratio("25 the next", x.pairOdds(8, 0), x.pairOdds(8, 1), 19848457, 522547200);
        due("26 the lesser's RANK", x.rank(2, 4), 7);
        due("26 the next one's RANK", x.rank(5, 7), 8);
        for (int k = 1; k < 28; k++) {
            BigInteger least = BigInteger.valueOf(x.pairOdds(k - 1, 0)).multiply(BigInteger.valueOf(x.pairOdds(k, 1)));
            BigInteger next = BigInteger.valueOf(x.pairOdds(k, 0)).multiply(BigInteger.valueOf(x.pairOdds(k - 1, 1)));
            due("24 the lesser ahead of " + k, least.compareTo(next) <= 0 ? 1 : 0, 1);
        }
    }
}
