import java.util.List;
import java.util.function.Supplier;
import java.util.function.ToLongFunction;

/** Each call's refusals, two at once, too: the first that its words name is answered, and nothing changes. */
public final class RefusalTest {
    private static final int LEAST = Integer.MIN_VALUE, MOST = Integer.MAX_VALUE;
    private static final int NONE = -1, BAD = -2, STATE = -3, FULL = -4;
    private static final int NOTHING = -11, CAST = -12, PLACE = -13, SIZE = -14;
    private static final long NO = Long.MIN_VALUE;
    private static final Due DUE = new Due("RefusalTest");

    private final String name;
    private final Supplier<CopyBench> state;
    private final List<Long> before;
    private final int items;
    private final int candidates;
    private final int[] noItems;
    private final int[] noCandidates;
    private final int[] noAnswers = {-1, 4, LEAST, MOST, 256};
    private final int[] noTapes = {-1, 6, LEAST, MOST};
    private final int[] noParts = {-1, 2, LEAST, MOST};

    private RefusalTest(String name, Supplier<CopyBench> state) {
        this.name = name;
        this.state = state;
        before = Benches.print(state.get());
        items = state.get().count(0);
        candidates = state.get().count(1);
        noItems = new int[] {-1, items, LEAST, MOST};
        noCandidates = new int[] {-1, candidates, LEAST, MOST};
    }

    public static void main(String[] args) {
        RefusalTest some = new RefusalTest("some", Benches::some);
        RefusalTest full = new RefusalTest("full", Benches::full);
        for (RefusalTest test : List.of(new RefusalTest("new", CopyBench::new), some, full)) {
            test.anyState();
        }
        for (RefusalTest test : List.of(some, new RefusalTest("a crowd", Benches::crowd), full)) {
            test.changes();
            test.looks();
            test.likeness();
            test.suspicion();
            test.draws();
        }
        some.tapes();
        allFull(full);
        unlike(some);
        DUE.end();
    }

    private void refused(String call, long due, ToLongFunction<CopyBench> act) {
        CopyBench x = state.get();
        String told = call + ", of " + name;
        DUE.is(told, act.applyAsLong(x), due);
        DUE.holds(told + ": nothing changes", Benches.print(x).equals(before));
    }

    /** Refusals that there are whatever stands. */
    private void anyState() {
        for (int n : new int[] {0, 9, -1, LEAST, MOST}) {
            refused("2 items " + n, BAD, x -> x.items(n));
        }
        for (int sign : new int[] {-1, 128, LEAST, MOST, 256 + '0'}) {
            refused("9 feed " + sign, BAD, x -> x.feed(sign));
        }
        int[] least = {0, 0, 1, 0, 0, 1};
        int[] most = {3, 3, 500, 9, 2, 4};
        for (int what = 0; what < 6; what++) {
            for (int v : new int[] {least[what] - 1, most[what] + 1, LEAST, MOST}) {
                int use = what;
                refused("11 use " + what + " " + v, BAD, x -> x.use(use, v));
            }
        }
        for (int what : new int[] {-1, 6, LEAST, MOST}) {
            refused("11 use " + what, NONE, x -> x.use(what, 1));
            refused("11 use " + what + " of no size", NONE, x -> x.use(what, -1));
        }
        for (int what : new int[] {-1, 5, LEAST, MOST}) {
            refused("23 pairs " + what, NONE, x -> x.pairs(what, 1));
            refused("23 pairs " + what + " r -1", NONE, x -> x.pairs(what, -1));
        }
        for (int r : new int[] {-1, 10, LEAST, MOST}) {
            refused("23 near by " + r, BAD, x -> x.pairs(2, r));
        }
        for (int k : new int[] {-1, LEAST}) {
            refused("29 group " + k, BAD, x -> x.group(k));
        }
        for (int r : new int[] {0, 10, -1, LEAST, MOST}) {
            refused("30 seated " + r, NO, x -> x.seated(r, 0));
        }
        for (int part : noParts) {
            refused("30 seated part " + part, NO, x -> x.seated(1, part));
            refused("35 mean part " + part, NO, x -> x.mean(part));
        }
        for (int what : new int[] {-1, 2, LEAST, MOST}) {
            refused("34 fits " + what, NONE, x -> x.fits(what));
        }
        for (int what : new int[] {-1, 12, LEAST, MOST}) {
            refused("41 count " + what, BAD, x -> x.count(what));
        }
        anyTape();
    }

    private void anyTape() {
        for (int tape : noTapes) {
            refused("42 tape " + tape, NONE, x -> x.tape(tape, 0, 1));
            refused("42 tape " + tape + " to hold nothing", NONE, x -> x.tape(tape, -1, 0));
            refused("42 tape " + tape + " sort 5", NONE, x -> x.tape(tape, 5, 1));
            refused("42 tape " + tape + " size 61", NONE, x -> x.tape(tape, 0, 61));
            refused("42 tape " + tape + " size -1", NONE, x -> x.tape(tape, 0, -1));
            refused("43 item of tape " + tape, NONE, x -> x.item(tape, 0, 1));
            refused("43 item -1 of tape " + tape, NONE, x -> x.item(tape, -1, 1));
            refused("44 peek of tape " + tape, NO, x -> x.peek(tape, 0));
            refused("45 shift of tape " + tape, NONE, x -> x.shift(tape, 0, 0, 0, 1));
            refused("45 shift to tape " + tape, NONE, x -> x.shift(0, 0, tape, 0, 1));
            refused("45 shift n -1 to tape " + tape, NONE, x -> x.shift(0, 0, tape, 0, -1));
        }
        for (int tape = 0; tape < 6; tape++) {
            int one = tape;
            for (int sort : new int[] {-2, 5, LEAST, MOST}) {
                refused("42 sort " + sort, BAD, x -> x.tape(one, sort, 1));
                refused("42 sort " + sort + " size -1", BAD, x -> x.tape(one, sort, -1));
            }
            for (int sort = 0; sort < 5; sort++) {
                int kind = sort;
                refused("42 size 61", BAD, x -> x.tape(one, kind, 61));
                refused("42 the greatest size", BAD, x -> x.tape(one, kind, MOST));
                refused("42 size -1", SIZE, x -> x.tape(one, kind, -1));
                refused("42 the least size", SIZE, x -> x.tape(one, kind, LEAST));
            }
        }
    }

    private void changes() {
        for (int item : noItems) {
            refused("3 right of " + item, NONE, x -> x.right(item, 0));
            refused("3 right of " + item + " answer 4", NONE, x -> x.right(item, 4));
            refused("4 model of " + item, NONE, x -> x.model(item, 0));
            refused("4 model of " + item + " kind -1", NONE, x -> x.model(item, -1));
            refused("5 part of " + item, NONE, x -> x.part(item, 0, 1));
            refused("5 part of " + item + " answer 4", NONE, x -> x.part(item, 4, 1));
            refused("5 part of " + item + " v 0", NONE, x -> x.part(item, 0, 0));
            refused("7 gives to " + item, NONE, x -> x.gives(0, item, 1));
            refused("7 gives to " + item + " answer 4", NONE, x -> x.gives(0, item, 4));
        }
        for (int answer : noAnswers) {
            refused("3 right " + answer, BAD, x -> x.right(items - 1, answer));
            refused("4 model kind " + answer, BAD, x -> x.model(items - 1, answer));
            refused("5 part of answer " + answer, NONE, x -> x.part(0, answer, 1));
            refused("5 part of answer " + answer + " v 4", NONE, x -> x.part(0, answer, 4));
        }
        for (int v : new int[] {0, 4, -1, LEAST, MOST}) {
            refused("5 part v " + v, BAD, x -> x.part(items - 1, 3, v));
        }
        for (int answer : new int[] {-2, 4, LEAST, MOST}) {
            refused("7 gives " + answer, BAD, x -> x.gives(candidates - 1, items - 1, answer));
        }
        for (int c : noCandidates) {
            refused("7 gives of " + c, NONE, x -> x.gives(c, 0, 1));
            refused("7 gives of " + c + " to no item", NONE, x -> x.gives(c, items, 1));
            refused("7 gives of " + c + " answer -2", NONE, x -> x.gives(c, 0, -2));
            refused("8 seat of " + c, NONE, x -> x.seat(c, 5, 5));
            refused("8 no seat of " + c, NONE, x -> x.seat(c, -1, 0));
            refused("8 seat of " + c + " row 10", NONE, x -> x.seat(c, 10, 0));
            refused("8 seat of " + c + ", another's", NONE, x -> x.seat(c, x.of(0, 2), x.of(0, 3)));
        }
        for (int far : new int[] {-2, 10, LEAST, MOST}) {
            refused("8 row " + far, BAD, x -> x.seat(0, far, 5));
            refused("8 row " + far + " and place -1", BAD, x -> x.seat(0, far, -1));
        }
        for (int far : new int[] {-1, 10, LEAST, MOST}) {
            refused("8 place " + far, BAD, x -> x.seat(0, 5, far));
        }
        refused("8 another's seat", STATE, x -> x.seat(0, x.of(1, 2), x.of(1, 3)));
        refused("8 another's seat for the last", STATE, x -> x.seat(candidates - 1, x.of(0, 2), x.of(0, 3)));
    }

    private void looks() {
        for (int c : noCandidates) {
            refused("12 answer of " + c, NONE, x -> x.answer(c, 0));
            refused("13 of " + c, NONE, x -> x.of(c, 0));
            refused("13 of " + c + " what 4", NONE, x -> x.of(c, 4));
            refused("16 share, x " + c, NONE, x -> x.share(0, 0, c, 1));
            refused("16 share, y " + c, NONE, x -> x.share(0, 0, 1, c));
            refused("16 share, y " + c + " answer 4", NONE, x -> x.share(0, 4, 1, c));
        }
        for (int item : noItems) {
            refused("12 answer to " + item, NONE, x -> x.answer(0, item));
            refused("14 item " + item, NONE, x -> x.itemOf(item, 0));
            refused("15 taken " + item, NONE, x -> x.taken(item, 0));
            refused("15 taken " + item + " sort 5", NONE, x -> x.taken(item, 5));
            refused("16 share of " + item, NONE, x -> x.share(item, 0, 0, 1));
            refused("16 share of " + item + " answer -2", NONE, x -> x.share(item, -2, 0, 1));
        }
        for (int what : new int[] {-1, 4, LEAST, MOST}) {
            refused("13 of, what " + what, NONE, x -> x.of(0, what));
        }
        for (int what : new int[] {-1, 5, LEAST, MOST}) {
            refused("14 item, what " + what, NONE, x -> x.itemOf(0, what));
            refused("15 sort " + what, BAD, x -> x.taken(0, what));
            refused("15 sort " + what + " of the last", BAD, x -> x.taken(items - 1, what));
        }
        for (int answer : new int[] {-2, 4, LEAST, MOST}) {
            refused("16 share of answer " + answer, BAD, x -> x.share(0, answer, 0, 1));
        }
        refused("16 share of two alike", NONE, x -> x.share(0, 0, 1, 1));
        refused("16 share of two alike, answer 4", NONE, x -> x.share(0, 4, 1, 1));
    }

    private void likeness() {
        for (int c : noCandidates) {
            twoWithout(c, 0, "x " + c);
            twoWithout(0, c, "y " + c);
            twoWithout(c, c, "both " + c);
        }
        twoWithout(1, 1, "both 1");
        for (int by : new int[] {-1, 4, LEAST, MOST}) {
            refused("18 odds by " + by, NO, x -> x.odds(0, 1, by, 0));
            refused("19 just by " + by, NO, x -> x.just(0, 1, by, 0, 0));
        }
        for (int k : new int[] {-1, 33, LEAST, MOST}) {
            refused("19 just " + k, NO, x -> x.just(0, 1, 0, k, 0));
        }
        for (int item : noItems) {
            refused("21 without " + item, NO, x -> x.without(0, 1, item, 0));
        }
        for (int part : noParts) {
            refused("18 odds part " + part, NO, x -> x.odds(0, 1, 0, part));
            refused("19 just part " + part, NO, x -> x.just(0, 1, 0, 0, part));
            refused("21 without part " + part, NO, x -> x.without(0, 1, 0, part));
            refused("25 odds of a pair, part " + part, NO, x -> x.pairOdds(0, part));
            refused("32 chance part " + part, NO, x -> x.chance(0, 0, 1, 0, part));
        }
    }

    private void twoWithout(int one, int other, String told) {
        refused("17 alike, " + told, NONE, x -> x.alike(one, other));
        refused("18 odds, " + told, NO, x -> x.odds(one, other, 0, 0));
        refused("19 just, " + told, NO, x -> x.just(one, other, 0, 0, 0));
        refused("20 source, " + told, NONE, x -> x.source(one, other));
        refused("21 without, " + told, NO, x -> x.without(one, other, 0, 0));
        refused("22 key, " + told, NONE, x -> x.key(one, other));
        refused("26 rank, " + told, NONE, x -> x.rank(one, other));
        refused("31 drawn, " + told, NONE, x -> x.drawn(1, one, other));
        refused("32 chance, " + told, NO, x -> x.chance(1, one, other, 0, 0));
        refused("36 plan 3, " + told, NONE, x -> x.plan(3, one, other));
        if (one != -1) {
            refused("33 see, " + told, NONE, x -> x.see(one, other, true));
        }
    }

    private void suspicion() {
        int pairs = state.get().pairs(0, 0);
        for (int k : new int[] {-1, pairs, LEAST, MOST}) {
            refused("24 pair " + k, BAD, x -> x.pair(k, 0));
            refused("24 whether pair " + k + " is suspect", BAD, x -> x.pair(k, 2));
            refused("24 pair " + k + " what 3", NONE, x -> x.pair(k, 3));
            refused("25 odds of pair " + k, NO, x -> x.pairOdds(k, 0));
        }
        for (int what : new int[] {-1, 3, LEAST, MOST}) {
            refused("24 pair, what " + what, NONE, x -> x.pair(0, what));
        }
        for (int c : noCandidates) {
            refused("27 linked " + c, NONE, x -> x.linked(c));
            refused("28 chain " + c, NONE, x -> x.chain(c));
        }
    }

    private void draws() {
        for (int k : new int[] {-1, LEAST}) {
            refused("32 chance of " + k, NO, x -> x.chance(0, 0, 1, k, 0));
        }
        for (int what : new int[] {-2, 4, LEAST, MOST}) {
            refused("36 plan " + what, NONE, x -> x.plan(what, 0, 1));
            refused("36 plan " + what + " of no k", NONE, x -> x.plan(what, -1, 9));
        }
        for (int c : noCandidates) {
            refused("36 plan 0 of " + c, NONE, x -> x.plan(0, c, 0));
            refused("36 plan 3 of " + c, NONE, x -> x.plan(3, c, 0));
            refused("36 plan 3 from " + c, NONE, x -> x.plan(3, 0, c));
            refused("38 judge " + c, NONE, x -> x.judge(c, 0, 0));
            refused("38 judge " + c + " by no bytes", NONE, x -> x.judge(c, 1, 0));
        }
        for (int item : noItems) {
            refused("36 plan 1 of " + item, NONE, x -> x.plan(1, item, 0));
            refused("36 plan 1 of " + item + " v 4", NONE, x -> x.plan(1, item, 4));
            refused("36 plan 2 of " + item, NONE, x -> x.plan(2, item, 0));
            refused("36 plan 2 of " + item + " v -1", NONE, x -> x.plan(2, item, -1));
        }
        for (int v : noAnswers) {
            refused("36 plan 1, v " + v, BAD, x -> x.plan(1, items - 1, v));
            refused("36 plan 2, v " + v, BAD, x -> x.plan(2, items - 1, v));
        }
        for (int tape : noTapes) {
            refused("38 judge by tape " + tape, NONE, x -> x.judge(0, tape, 0));
        }
        for (int tape = 1; tape < 5; tape++) {
            int one = tape;
            refused("38 judge by no bytes", CAST, x -> x.judge(0, one, 0));
            refused("38 judge by no bytes from no place", CAST, x -> x.judge(0, one, -1));
        }
    }

    /** Of Benches.some, whose tapes are of 4, 3, 0, 2 and 2 items, the last without any. */
    private void tapes() {
        int[] sizes = {4, 3, 0, 2, 2};
        for (int tape = 0; tape < 5; tape++) {
            int one = tape;
            for (int i : new int[] {-1, sizes[tape], LEAST, MOST}) {
                refused("43 item " + i + " of tape " + tape, PLACE, x -> x.item(one, i, 1));
                refused("44 peek " + i + " of tape " + tape, NO, x -> x.peek(one, i));
            }
        }
        for (int i : new int[] {-1, 0, LEAST, MOST}) {
            refused("43 item " + i + " of nothing", NOTHING, x -> x.item(5, i, 1));
            refused("44 peek " + i + " of nothing", NO, x -> x.peek(5, i));
        }
        for (int i : new int[] {-1, 4, LEAST, MOST}) {
            refused("45 shift from " + i, PLACE, x -> x.shift(0, i, 0, 0, 1));
            refused("45 shift to " + i, PLACE, x -> x.shift(0, 0, 0, i, 1));
        }
        for (int n : new int[] {-1, 5, LEAST, MOST}) {
            refused("45 shift of " + n, PLACE, x -> x.shift(0, 0, 0, 0, n));
        }
        refused("45 shift of none from beyond the end", PLACE, x -> x.shift(0, 5, 0, 0, 0));
        refused("45 shift of none to beyond the end", PLACE, x -> x.shift(0, 0, 0, 5, 0));
        refused("45 shift of none from below", PLACE, x -> x.shift(0, -1, 0, 0, 0));
        refused("45 shift of none to below", PLACE, x -> x.shift(0, 0, 0, -1, 0));
        refused("45 shift of nothing", NOTHING, x -> x.shift(5, 0, 0, 0, 1));
        refused("45 shift to nothing", NOTHING, x -> x.shift(0, 0, 5, 0, 1));
        refused("45 shift of nothing to nothing, n -1", NOTHING, x -> x.shift(5, 0, 5, 0, -1));
        refused("45 shift of nothing to no tape", NONE, x -> x.shift(5, 0, 6, 0, 1));
        refused("45 shift to another sort", CAST, x -> x.shift(0, 0, 1, 0, 1));
        refused("45 shift of none to another sort", CAST, x -> x.shift(1, 0, 0, 0, 0));
        refused("45 shift from no place to another sort", CAST, x -> x.shift(0, -1, 1, 0, -1));
    }

    private static void allFull(RefusalTest full) {
        full.refused("6 a ninth candidate", FULL, x -> x.candidate());
        full.refused("9 one more sign", FULL, x -> x.feed('a'));
        full.refused("9 one more sign, the least", FULL, x -> x.feed(0));
        full.refused("33 a sixth row", FULL, x -> x.see(0, 1, true));
        full.refused("33 a sixth row without y", NONE, x -> x.see(0, 8, true));
        full.refused("33 a sixth row of two alike", NONE, x -> x.see(7, 7, true));
        for (int what = 0; what < 4; what++) {
            int one = what;
            full.refused("36 a ninth row, what " + what, FULL, x -> x.plan(one, 0, 1));
            full.refused("36 a ninth row without k, what " + what, NONE, x -> x.plan(one, 8, 1));
        }
        full.refused("36 a ninth row, no kind", BAD, x -> x.plan(2, 0, 4));
        full.refused("36 a ninth row, no answer", BAD, x -> x.plan(1, 0, -1));
        full.refused("36 a ninth row, k and v alike", NONE, x -> x.plan(3, 1, 1));
        full.refused("36 a ninth row, no such", NONE, x -> x.plan(4, 0, 0));
    }

    /** What isn't refused, but answered by a number below 0, changes nothing either. */
    private static void unlike(RefusalTest some) {
        some.refused("10 the seat is not had", -5, x -> x.of(2, 2));
        some.refused("12 no answer", -5, x -> x.answer(0, 2));
        some.refused("15 EVEN taken for TOLD", CAST, x -> x.taken(0, 2));
        some.refused("15 EVEN taken for LEARNT", CAST, x -> x.taken(0, 3));
        some.refused("15 LEARNT taken for BARE", CAST, x -> x.taken(1, 4));
        some.refused("15 BARE taken for EVEN", CAST, x -> x.taken(2, 1));
        some.refused("29 no such group", -5, x -> x.group(9));
        some.refused("38 nothing on the tape", 100, x -> x.judge(0, 5, 0));
        RefusalTest first = new RefusalTest("new", CopyBench::new);
        first.refused("35 mean of nobody", NO, x -> x.mean(0));
        first.refused("40 undo without an image", STATE, x -> x.undo());
        first.refused("6 no candidate yet", NONE, x -> x.gives(0, 0, 0));
        first.refused("24 no pair yet", BAD, x -> x.pair(0, 0));
        first.refused("25 no pair yet", NO, x -> x.pairOdds(0, 1));
    }
}
