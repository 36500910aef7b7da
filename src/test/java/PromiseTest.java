/** The document's promises, one by one: ordinary calls, the edges that it names, wrong numbers. */
public final class PromiseTest {
    private static final int LEAST = Integer.MIN_VALUE, MOST = Integer.MAX_VALUE;
    private static final long NO = Long.MIN_VALUE;
    private static final Due DUE = new Due("PromiseTest");

    public static void main(String[] args) {
        state();
        lookingUp();
        likeness();
        suspicion();
        drawsAndPlans();
        judgingAndTapes();
        DUE.end();
    }

    private static void state() {
        promise1();
        promise2();
        promise3();
        promise4();
        promise5();
        promise6();
        promise7();
        promise8();
        promise9();
        promise10();
        promise10Faults();
        promise11();
    }

    private static void lookingUp() {
        promise12();
        promise13();
        promise14();
        promise15();
        promise16();
    }

    private static void likeness() {
        promise17();
        promise18();
        promise18Mixed();
        promise19();
        promise20();
        promise21();
        promise22();
    }

    private static void suspicion() {
        promise23();
        promise23Rules();
        promise24();
        promise25();
        promise26();
        promise27();
        promise28();
        promise29();
        promise30();
    }

    private static void drawsAndPlans() {
        promise31();
        promise32();
        promise33();
        promise34();
        promise35();
        promise36();
        promise37();
    }

    private static void judgingAndTapes() {
        promise38();
        promise39();
        promise40();
        promise41();
        promise42();
        promise43();
        promise44();
        promise45();
    }

    private static void due(String call, long got, long want) {
        DUE.is(call, got, want);
    }

    private static CopyBench sheets(int items, int candidates, String text) {
        CopyBench x = Benches.with(items, candidates);
        due("10 sheets " + text, Benches.tell(x, text), text.split(";").length);
        return x;
    }

    private static void ratio(String call, long above, long below, long wantAbove, long wantBelow) {
        due(call + " above", above, wantAbove);
        due(call + " below", below, wantBelow);
    }

    private static void odds(CopyBench x, int one, int other, int by, long above, long below) {
        ratio("odds " + one + " " + other + " by " + by, x.odds(one, other, by, 0), x.odds(one, other, by, 1), above,
            below);
    }

    private static void just(CopyBench x, int by, int k, long above, long below) {
        ratio("just by " + by + " k " + k, x.just(0, 1, by, k, 0), x.just(0, 1, by, k, 1), above, below);
    }

    private static void promise1() {
        CopyBench x = new CopyBench();
        int[] first = {4, 0, 0, 0, 0, 0, 0, 0, 50, 0, 0, 1};
        for (int what = 0; what < 12; what++) {
            due("1 count " + what, x.count(what), first[what]);
        }
        due("1 right at first", x.itemOf(3, 0), 0);
        due("1 kind at first", x.itemOf(3, 1), 0);
        due("1 no fifth item", x.itemOf(4, 0), -1);
        due("1 part at first", x.part(3, 3, 2), 1);
        due("1 no image", x.undo(), -3);
        due("1 tapes hold nothing", x.item(5, 0, 1), -11);
        due("1 a candidate has no answer", x.candidate() + x.answer(0, 0), -5);
        due("1 nor a seat", x.of(0, 2), -5);
    }

    private static void promise2() {
        CopyBench x = sheets(4, 2, "0abcd;1dcba");
        x.right(1, 2);
        x.model(1, 3);
        x.part(1, 1, 3);
        x.seat(0, 1, 1);
        x.see(0, 1, true);
        x.plan(0, 0, 0);
        x.use(0, 1);
        x.use(2, 9);
        x.use(3, 4);
        x.use(4, 2);
        x.use(5, 3);
        x.use(1, 2);
        x.image();
        x.feed('0');
        x.tape(2, 3, 2);
        due("2 none", x.items(0), -2);
        due("2 below", x.items(LEAST), -2);
        due("2 above", x.items(9), -2);
        due("2 what is BAD changes nothing", x.count(1), 2);
        due("2 the same", x.items(4), 4);
        int[] then = {4, 0, 0, 0, 0, 1, 1, 2, 9, 4, 2, 3};
        for (int what = 0; what < 12; what++) {
            due("2 count " + what, x.count(what), then[what]);
        }
        due("2 right as at first", x.itemOf(1, 0), 0);
        due("2 kind as at first", x.itemOf(1, 1), 0);
        due("2 part as at first", x.part(1, 1, 3), 1);
        x.candidate();
        due("2 no answers", x.of(0, 0), 0);
        due("2 no seats", x.of(0, 2), -5);
        due("2 tapes stay", x.peek(2, 1), 0);
        due("2 eight", x.items(8), 4);
        due("2 one", x.items(1), 8);
        due("2 no more than one", x.right(1, 0), -1);
        due("2 the image stays", x.undo(), 2);
        due("2 and has four items", x.count(0), 4);
    }

    private static void promise3() {
        CopyBench x = Benches.with(2, 1);
        due("3 it was", x.right(1, 3), 0);
        due("3 it was then", x.right(1, 2), 3);
        due("3 the other", x.itemOf(0, 0), 0);
        due("3 no item", x.right(2, 0), -1);
        due("3 no item below", x.right(-1, 9), -1);
        due("3 no answer", x.right(0, 4), -2);
        due("3 no answer below", x.right(0, -1), -2);
        due("3 nothing became so", x.itemOf(0, 0), 0);
    }

    private static void promise4() {
        CopyBench x = Benches.with(2, 1);
        for (int kind = 1; kind < 4; kind++) {
            due("4 it was", x.model(1, kind), kind - 1);
        }
        due("4 back", x.model(1, 0), 3);
        due("4 no item", x.model(2, 0), -1);
        due("4 no item below", x.model(LEAST, 7), -1);
        due("4 no kind", x.model(0, 4), -2);
        due("4 no kind below", x.model(0, -1), -2);
        due("4 nothing became so", x.itemOf(0, 1), 0);
    }

    private static void promise5() {
        CopyBench x = Benches.with(2, 1);
        due("5 it was", x.part(1, 2, 3), 1);
        due("5 it was then", x.part(1, 2, 2), 3);
        due("5 the other answer", x.part(1, 1, 1), 1);
        due("5 the other item", x.part(0, 2, 1), 1);
        due("5 no item", x.part(2, 0, 0), -1);
        due("5 no item below", x.part(-1, 0, 1), -1);
        due("5 no answer", x.part(0, 4, 0), -1);
        due("5 no answer below", x.part(0, -1, 1), -1);
        due("5 too small", x.part(1, 2, 0), -2);
        due("5 too great", x.part(1, 2, 4), -2);
        due("5 it stays", x.part(1, 2, 1), 2);
    }

    private static void promise6() {
        CopyBench x = new CopyBench();
        for (int c = 0; c < 8; c++) {
            due("6 it comes", x.candidate(), c);
        }
        due("6 full", x.candidate(), -4);
        due("6 eight", x.count(1), 8);
        due("6 its answers", x.of(7, 0), 0);
    }

    private static void promise7() {
        CopyBench x = Benches.with(2, 2);
        due("7 none before", x.gives(1, 1, 3), -5);
        due("7 it was", x.gives(1, 1, 0), 3);
        due("7 it was 0", x.gives(1, 1, -1), 0);
        due("7 none again", x.gives(1, 1, 2), -5);
        due("7 no candidate", x.gives(2, 0, 9), -1);
        due("7 no candidate below", x.gives(-1, 0, 0), -1);
        due("7 no item", x.gives(0, 2, 0), -1);
        due("7 no item below", x.gives(0, -1, 0), -1);
        due("7 no answer", x.gives(1, 1, 4), -2);
        due("7 no answer below", x.gives(1, 1, -2), -2);
        due("7 it stays", x.answer(1, 1), 2);
        due("7 the other has none", x.answer(0, 1), -5);
    }

    private static void promise8() {
        CopyBench x = Benches.with(1, 3);
        due("8 a seat", x.seat(0, 0, 9), 1);
        due("8 another", x.seat(1, 9, 0), 1);
        due("8 its own again", x.seat(1, 9, 0), 1);
        due("8 another one's", x.seat(2, 0, 9), -3);
        due("8 another one's, having one", x.seat(1, 0, 9), -3);
        due("8 it stays", x.of(1, 2), 9);
        due("8 no candidate", x.seat(3, -1, 0), -1);
        due("8 no candidate below", x.seat(-1, 10, 0), -1);
        due("8 no row", x.seat(0, 10, 0), -2);
        due("8 no row below", x.seat(0, -2, 0), -2);
        due("8 no place", x.seat(0, 0, 10), -2);
        due("8 no place below", x.seat(0, 0, -1), -2);
        due("8 none, whatever the place", x.seat(0, -1, MOST), 1);
        due("8 it has none", x.of(0, 3), -5);
        due("8 it is free", x.seat(2, 0, 9), 1);
        due("8 none twice", x.seat(0, -1, LEAST), 1);
    }

    private static void promise9() {
        CopyBench x = new CopyBench();
        due("9 below", x.feed(-1), -2);
        due("9 above", x.feed(128), -2);
        due("9 the least", x.feed(0), 1);
        due("9 the greatest", x.feed(127), 2);
        for (int i = 3; i <= 60; i++) {
            due("9 how many", x.feed('a'), i);
        }
        due("9 full", x.feed('a'), -4);
        due("9 a bad sign when full", x.feed(200), -2);
        due("9 sixty", x.count(5), 60);
    }

    private static void promise10() {
        CopyBench x = Benches.with(3, 4);
        due("10 one", Benches.tell(x, "0abc"), 1);
        due("10 the text is empty", x.count(5), 0);
        due("10 an answer", x.answer(0, 2), 2);
        due("10 two, in order", Benches.tell(x, "0d;3dd-;0-a"), 3);
        due("10 told none", x.answer(0, 0), -5);
        due("10 told the last", x.answer(0, 1), 0);
        due("10 what isn't told stays", x.answer(0, 2), 2);
        due("10 another's", x.answer(3, 1), 3);
        due("10 another's none", x.answer(3, 2), -5);
        due("10 four", Benches.tell(x, "0a;1b;2c;3d"), 4);
        due("10 four's last", x.answer(3, 0), 3);
    }

    private static void promise10Faults() {
        CopyBench x = Benches.with(2, 2);
        due("10 empty", Benches.tell(x, ""), -10);
        due("10 no letter", Benches.tell(x, "0"), -11);
        due("10 a letter first", Benches.tell(x, "a"), -10);
        due("10 no such candidate", Benches.tell(x, "2a"), -10);
        due("10 no such digit", Benches.tell(x, "/a"), -10);
        due("10 too many letters", Benches.tell(x, "0abc"), -13);
        due("10 no such letter", Benches.tell(x, "0ae"), -12);
        due("10 no great letter", Benches.tell(x, "0A"), -11);
        due("10 a blank", Benches.tell(x, "0a ;1b"), -12);
        due("10 a clause without letters", Benches.tell(x, "0;1b"), -11);
        due("10 ends behind ;", Benches.tell(x, "0a;"), -13);
        due("10 ends behind a digit", Benches.tell(x, "0a;1"), -14);
        due("10 five clauses", Benches.tell(x, "0a;1b;0c;1d;0a"), -21);
        due("10 the text is empty", x.count(5), 0);
        due("10 nothing became so", x.of(0, 0) + x.of(1, 0), 0);
        due("10 nobody", Benches.tell(new CopyBench(), "0a"), -10);
        CopyBench y = Benches.with(2, 1);
        for (int i = 0; i < 60; i++) {
            y.feed(i == 0 ? '0' : 'a');
        }
        due("10 sixty signs", y.read(), -13);
        due("10 empty then", y.feed('0'), 1);
    }

    private static void promise11() {
        CopyBench x = new CopyBench();
        int[] first = {0, 0, 50, 0, 0, 1};
        int[] least = {0, 0, 1, 0, 0, 1};
        int[] most = {3, 3, 500, 9, 2, 4};
        for (int what = 0; what < 6; what++) {
            due("11 too small " + what, x.use(what, least[what] - 1), -2);
            due("11 too great " + what, x.use(what, most[what] + 1), -2);
            due("11 the greatest " + what, x.use(what, most[what]), first[what]);
            due("11 in use " + what, x.count(6 + what), most[what]);
            due("11 the least " + what, x.use(what, least[what]), most[what]);
        }
        due("11 no such", x.use(6, 1), -1);
        due("11 no such below", x.use(-1, MOST), -1);
    }

    private static void promise12() {
        CopyBench x = sheets(3, 2, "0a-d");
        due("12 a", x.answer(0, 0), 0);
        due("12 none", x.answer(0, 1), -5);
        due("12 d", x.answer(0, 2), 3);
        due("12 another's", x.answer(1, 0), -5);
        due("12 no candidate", x.answer(2, 0), -1);
        due("12 no candidate below", x.answer(-1, 0), -1);
        due("12 no item", x.answer(0, 3), -1);
        due("12 no item below", x.answer(0, -1), -1);
    }

    private static void promise13() {
        CopyBench x = sheets(4, 2, "0ab-a;1bbbb");
        x.right(1, 1);
        x.seat(0, 3, 7);
        due("13 answers", x.of(0, 0), 3);
        due("13 right ones", x.of(0, 1), 3);
        due("13 another's right ones", x.of(1, 1), 1);
        due("13 row", x.of(0, 2), 3);
        due("13 place", x.of(0, 3), 7);
        due("13 no row", x.of(1, 2), -5);
        due("13 no place", x.of(1, 3), -5);
        due("13 no such", x.of(0, 4), -1);
        due("13 no such below", x.of(0, -1), -1);
        due("13 no candidate", x.of(2, 0), -1);
        due("13 no candidate below", x.of(LEAST, 0), -1);
    }

    private static void promise14() {
        CopyBench x = sheets(3, 5, "0ab;1bc;2cc;3cb");
        x.right(1, 1);
        x.model(1, 2);
        due("14 right", x.itemOf(1, 0), 1);
        due("14 kind", x.itemOf(1, 1), 2);
        due("14 gave", x.itemOf(0, 2), 4);
        due("14 gave a wrong one", x.itemOf(0, 3), 3);
        due("14 the wrong one of most", x.itemOf(0, 4), 2);
        due("14 wrong by another right one", x.itemOf(1, 3), 2);
        due("14 the wrong one of most there", x.itemOf(1, 4), 2);
        x.gives(4, 0, 1);
        due("14 of like ones the first", x.itemOf(0, 4), 1);
        due("14 nobody gave", x.itemOf(2, 2) + x.itemOf(2, 3), 0);
        due("14 the first wrong one", x.itemOf(2, 4), 1);
        x.right(2, 1);
        due("14 the first wrong one is 0", x.itemOf(2, 4), 0);
        due("14 no such", x.itemOf(0, 5), -1);
        due("14 no such below", x.itemOf(0, -1), -1);
        due("14 no item", x.itemOf(3, 0), -1);
        due("14 no item below", x.itemOf(-1, 0), -1);
    }

    private static void promise15() {
        CopyBench x = Benches.with(4, 0);
        int[][] due = {{0, 0, -12, -12, -12}, {1, 1, 1, -12, -12}, {2, -12, -12, 2, -12}, {3, -12, -12, 3, 3}};
        for (int kind = 0; kind < 4; kind++) {
            x.model(kind, kind);
            for (int sort = 0; sort < 5; sort++) {
                due("15 kind " + kind + " sort " + sort, x.taken(kind, sort), due[kind][sort]);
            }
        }
        due("15 no item", x.taken(4, 9), -1);
        due("15 no item below", x.taken(-1, 0), -1);
        due("15 no sort", x.taken(0, 5), -2);
        due("15 no sort below", x.taken(0, -1), -2);
    }

    private static void promise16() {
        CopyBench x = sheets(2, 4, "0b;1b;2b;3a");
        x.part(0, 1, 3);
        x.part(0, 2, 2);
        int[][] due = {{1, 1, 1, 1, 4}, {1, 3, 2, 1, 7}, {2, 4, 1, 1, 8}, {2, 2, 1, 1, 6}};
        for (int kind = 0; kind < 4; kind++) {
            x.model(0, kind);
            for (int answer = 0; answer < 4; answer++) {
                due("16 kind " + kind + " answer " + answer, x.share(0, answer, 0, 1), due[kind][answer]);
            }
            due("16 kind " + kind + " sum", x.share(0, -1, 1, 0), due[kind][4]);
        }
        due("16 other two", x.share(0, 1, 2, 3), 3);
        due("16 no item", x.share(2, 9, 0, 1), -1);
        due("16 no item below", x.share(-1, 0, 0, 1), -1);
        due("16 no candidate", x.share(0, 0, 4, 1), -1);
        due("16 no candidate below", x.share(0, 0, 1, -1), -1);
        due("16 alike", x.share(0, 9, 1, 1), -1);
        due("16 no answer", x.share(0, 4, 0, 1), -2);
        due("16 no answer below", x.share(0, -2, 0, 1), -2);
    }

    private static void promise17() {
        CopyBench x = sheets(4, 3, "0abc-;1abd-;2----");
        due("17 one wrong alike", x.alike(0, 1), 1);
        x.use(4, 2);
        x.use(5, 4);
        due("17 right and wrong", x.alike(1, 0), 6);
        x.right(0, 1);
        due("17 both wrong", x.alike(0, 1), 8);
        due("17 no answers", x.alike(0, 2), 0);
        due("17 alike", x.alike(0, 0), -1);
        due("17 no candidate", x.alike(0, 3), -1);
        due("17 no candidate below", x.alike(-1, 0), -1);
    }

    private static void promise18() {
        CopyBench x = sheets(2, 2, "0bb;1bb");
        odds(x, 0, 1, 0, 9, 256);
        odds(x, 0, 1, 1, 1, 9);
        odds(x, 0, 1, 2, 1, 16);
        odds(x, 0, 1, 3, 1, 9);
        x.model(0, 1);
        x.part(0, 1, 3);
        odds(x, 0, 1, 0, 11, 192);
        odds(x, 0, 1, 1, 11, 75);
        odds(x, 0, 1, 2, 1, 8);
        odds(x, 0, 1, 3, 1, 5);
        x.use(5, 4);
        odds(x, 1, 0, 3, 1, 5);
        due("18 no supposition", x.odds(0, 1, 4, 0), NO);
        due("18 no supposition below", x.odds(0, 1, -1, 0), NO);
        due("18 no part", x.odds(0, 1, 0, 2), NO);
        due("18 no part below", x.odds(0, 1, 0, -1), NO);
        due("18 alike", x.odds(1, 1, 0, 0), NO);
        due("18 no candidate", x.odds(0, 2, 0, 0), NO);
        due("18 no candidate below", x.odds(LEAST, 0, 0, 0), NO);
    }

    private static void promise18Mixed() {
        CopyBench x = sheets(3, 2, "0aab;1abb");
        x.use(4, 1);
        odds(x, 0, 1, 0, 5, 32);
        odds(x, 0, 1, 1, 1, 3);
        odds(x, 0, 1, 2, 5, 32);
        odds(x, 0, 1, 3, 1, 3);
        x.model(0, 1);
        x.part(0, 0, 3);
        odds(x, 0, 1, 2, 1, 4);
        CopyBench y = sheets(3, 2, "0ab-;1-c-");
        odds(y, 0, 1, 0, 1, 1);
        odds(y, 1, 0, 3, 1, 1);
        CopyBench z = sheets(8, 8, "0bbbbbbbb;1bbbbbbbb");
        for (int item = 0; item < 8; item++) {
            z.model(item, 2);
            for (int c = 2; c < 8; c++) {
                z.gives(c, item, c % 2);
            }
        }
        long below = 1;
        for (int i = 0; i < 16; i++) {
            below *= 12;
        }
        odds(z, 0, 1, 2, 1, 256);
        long above = 1;
        for (int i = 0; i < 8; i++) {
            above *= 38;
        }
        odds(z, 0, 1, 0, above / 256, below / 256);
    }

    private static void promise19() {
        CopyBench x = sheets(2, 2, "0ab;1ab");
        x.use(4, 2);
        just(x, 0, 0, 9, 16);
        x.use(5, 4);
        just(x, 2, 0, 9, 16);
        just(x, 2, 2, 3, 16);
        just(x, 2, 4, 3, 16);
        just(x, 2, 6, 1, 16);
        just(x, 2, 1, 0, 1);
        just(x, 1, 2, 2, 3);
        just(x, 1, 6, 1, 3);
        just(x, 1, 32, 0, 1);
        due("19 k above", x.just(0, 1, 0, 33, 0), NO);
        due("19 k below", x.just(0, 1, 0, -1, 0), NO);
        due("19 no supposition", x.just(0, 1, 4, 0, 0), NO);
        due("19 no supposition below", x.just(0, 1, -1, 0, 0), NO);
        due("19 no part", x.just(0, 1, 0, 0, 2), NO);
        due("19 alike", x.just(0, 0, 0, 0, 0), NO);
        due("19 no candidate", x.just(2, 0, 0, 0, 0), NO);
        CopyBench all = sheets(8, 2, "0bbbbbbbb;1bbbbbbbb");
        all.use(5, 4);
        just(all, 2, 32, 1, 65536);
        odds(all, 0, 1, 2, 1, 65536);
    }

    private static void promise20() {
        CopyBench x = sheets(2, 3, "0bb;1bc;2b-");
        due("20 neither", x.source(0, 1), -5);
        x.model(1, 1);
        x.part(1, 1, 3);
        due("20 the one whose answers are rare", x.source(0, 1), 1);
        x.use(4, 2);
        x.gives(0, 1, 0);
        x.part(1, 1, 1);
        x.part(1, 0, 3);
        due("20 rare against right", x.source(1, 0), 1);
        due("20 no candidate", x.source(0, 3), -1);
        due("20 no candidate below", x.source(-1, 0), -1);
        due("20 alike", x.source(2, 2), -1);
        CopyBench y = sheets(2, 2, "0bb;1ba");
        y.use(4, 0);
        y.model(1, 1);
        y.part(1, 1, 3);
        due("20 whose right answer counts nothing", y.source(0, 1), 1);
        due("20 in the other order", y.source(1, 0), 1);
        y.part(1, 1, 1);
        y.right(1, 1);
        due("20 and the other way", y.source(0, 1), 0);
    }

    private static void promise21() {
        CopyBench x = sheets(3, 2, "0bb-;1bbb");
        ratio("21 without 0", x.without(0, 1, 0, 0), x.without(0, 1, 0, 1), 3, 16);
        ratio("21 without one that one gave", x.without(0, 1, 2, 0), x.without(0, 1, 2, 1), 9, 256);
        x.use(0, 3);
        ratio("21 by FREE always", x.without(1, 0, 1, 0), x.without(1, 0, 1, 1), 3, 16);
        due("21 no item", x.without(0, 1, 3, 0), NO);
        due("21 no item below", x.without(0, 1, -1, 0), NO);
        due("21 no part", x.without(0, 1, 0, 2), NO);
        due("21 no part below", x.without(0, 1, 0, -1), NO);
        due("21 alike", x.without(1, 1, 0, 0), NO);
        due("21 no candidate", x.without(0, 2, 0, 0), NO);
    }

    private static void promise22() {
        CopyBench x = sheets(3, 3, "0bcb;1bbb;2---");
        due("22 of like ones the first", x.key(0, 1), 0);
        x.model(2, 1);
        x.part(2, 0, 3);
        due("22 the rare one", x.key(1, 0), 2);
        x.model(0, 1);
        x.part(0, 0, 3);
        x.part(2, 0, 1);
        due("22 the rare one is the first", x.key(0, 1), 0);
        due("22 no answers", x.key(0, 2), 0);
        due("22 alike", x.key(0, 0), -1);
        due("22 no candidate", x.key(3, 0), -1);
    }

    /** 0, 1 and 2 are suspect with one another, 3 with 2 alone. */
    private static CopyBench chained() {
        CopyBench x = sheets(4, 5, "0bbbb;1bbbb;2bbbb;3----");
        x.use(2, 1);
        return x;
    }

    private static void promise23() {
        CopyBench x = sheets(4, 5, "0bbbb;1bbbb;2ccbb;3cccc");
        due("23 pairs", x.pairs(0, 99), 10);
        due("23 suspect", x.pairs(1, -9), 1);
        x.use(2, 300);
        due("23 suspect by a higher level", x.pairs(1, 0), 4);
        due("23 groups", x.pairs(3, 0), 2);
        due("23 the greatest", x.pairs(4, 0), 3);
        x.seat(0, 0, 0);
        x.seat(1, 2, 1);
        x.seat(3, 2, 3);
        due("23 near by 1", x.pairs(2, 1), 0);
        due("23 near by 2", x.pairs(2, 2), 2);
        due("23 near by 3", x.pairs(2, 3), 3);
        due("23 near by 0", x.pairs(2, 0), 0);
        x.use(3, 2);
        due("23 pairs in reach", x.pairs(0, 0), 2);
        due("23 near ones of all", x.pairs(2, 9), 3);
        due("23 r above", x.pairs(2, 10), -2);
        due("23 r below", x.pairs(2, -1), -2);
        due("23 no such", x.pairs(5, 0), -1);
        due("23 no such below", x.pairs(-1, -1), -1);
        CopyBench none = new CopyBench();
        for (int what = 0; what < 5; what++) {
            due("23 nobody " + what, none.pairs(what, 0), 0);
        }
    }

    /** Three pairs, of odds 1/16 (twice alike), 1/4 and 1/4 by SOURCE: see each rule's line. */
    private static void promise23Rules() {
        CopyBench x = sheets(2, 3, "0bb;1bb;2b-");
        x.use(0, 2);
        ratio("23 the first", x.pairOdds(0, 0), x.pairOdds(0, 1), 1, 16);
        ratio("23 the last", x.pairOdds(2, 0), x.pairOdds(2, 1), 1, 4);
        int[][] due = {
            // level, suspect by EACH, FAMILY, STEPS, MISTAKES
            {62, 0, 0, 0, 0}, {63, 1, 0, 0, 0}, {187, 1, 0, 0, 0}, {188, 1, 1, 1, 1}, {249, 1, 1, 1, 1},
            {250, 3, 1, 1, 3}, {499, 3, 1, 1, 3}, {500, 3, 1, 3, 3}};
        for (int[] row : due) {
            x.use(2, row[0]);
            for (int rule = 0; rule < 4; rule++) {
                x.use(1, rule);
                due("23 level " + row[0] + " rule " + rule, x.pairs(1, 0), row[1 + rule]);
            }
        }
    }

    private static void promise24() {
        CopyBench x = sheets(4, 4, "0b---;1cbb-;2bcb-;3cbbb");
        x.use(2, 20);
        due("24 the first's x", x.pair(0, 0), 1);
        due("24 the first's y", x.pair(0, 1), 3);
        due("24 it is suspect", x.pair(0, 2), 1);
        due("24 the second's x, of like odds", x.pair(1, 0), 0);
        due("24 the second's y", x.pair(1, 1), 2);
        due("24 it is not", x.pair(1, 2), 0);
        due("24 the last's x", x.pair(5, 0), 0);
        due("24 the last's y", x.pair(5, 1), 3);
        due("24 none such", x.pair(6, 0), -2);
        due("24 none such below", x.pair(-1, 0), -2);
        due("24 no such", x.pair(6, 3), -1);
        due("24 no such below", x.pair(0, -1), -1);
    }

    private static void promise25() {
        CopyBench x = sheets(2, 3, "0bb;1ba;2bb");
        x.use(0, 2);
        x.use(4, 1);
        x.model(1, 1);
        x.part(1, 0, 3);
        ratio("25 the least", x.pairOdds(0, 0), x.pairOdds(0, 1), 1, 24);
        ratio("25 the lesser of both ways", x.pairOdds(1, 0), x.pairOdds(1, 1), 3, 8);
        due("25 none such", x.pairOdds(3, 0), NO);
        due("25 none such below", x.pairOdds(-1, 0), NO);
        due("25 no part", x.pairOdds(0, 2), NO);
        due("25 no part below", x.pairOdds(0, -1), NO);
        CopyBench y = sheets(1, 2, "0b;1c");
        y.candidate();
        y.gives(2, 0, 1);
        y.use(0, 3);
        ratio("25 by BOUND", y.pairOdds(0, 0), y.pairOdds(0, 1), 1, 3);
        CopyBench z = sheets(2, 2, "0bb;1bc");
        z.use(0, 3);
        z.model(1, 1);
        z.part(1, 1, 3);
        // Of the second item's wrong ones b is 3 by 5, c 1 by 5: 1 - 2/3 * 2/5 and 1 - 2/3 * 4/5.
        ratio("25 the lesser by BOUND", z.pairOdds(0, 0), z.pairOdds(0, 1), 7, 15);
        z.use(0, 2);
        // And of all 3 by 6 and 1 by 6: 1 - 3/4 * 1/2 and 1 - 3/4 * 5/6.
        ratio("25 the lesser by SOURCE", z.pairOdds(0, 0), z.pairOdds(0, 1), 3, 8);
        x.use(3, 1);
        due("25 no pairs", x.pairOdds(0, 0), NO);
    }

    private static void promise26() {
        CopyBench x = sheets(4, 4, "0b---;1cbb-;2bcb-;3cbbb");
        due("26 the first", x.rank(1, 3), 0);
        due("26 in the other order", x.rank(2, 0), 1);
        due("26 the last", x.rank(0, 3), 5);
        x.seat(0, 0, 0);
        x.seat(3, 1, 1);
        x.use(3, 1);
        due("26 the only one", x.rank(3, 0), 0);
        due("26 no pair", x.rank(1, 3), -5);
        due("26 alike", x.rank(1, 1), -1);
        due("26 no candidate", x.rank(0, 4), -1);
        due("26 no candidate below", x.rank(-1, 0), -1);
    }

    private static void promise27() {
        CopyBench x = chained();
        due("27 nobody by a low level", x.linked(4), 0);
        x.use(2, 2);
        due("27 who", x.linked(0), 6);
        due("27 in both directions", x.linked(2), 3);
        due("27 nobody", x.linked(3), 0);
        x.gives(0, 0, -1);
        x.gives(0, 1, -1);
        due("27 nobody any more", x.linked(0), 0);
        due("27 the others still", x.linked(1), 4);
        due("27 no candidate", x.linked(5), -1);
        due("27 no candidate below", x.linked(-1), -1);
    }

    private static void promise28() {
        CopyBench x = sheets(8, 5, "0bbbb----;1bbbbcccc;2----cccc;3aaaa");
        x.use(2, 2);
        due("28 linked", x.linked(0), 2);
        due("28 by one between", x.chain(0), 7);
        due("28 from the other end", x.chain(2), 7);
        due("28 itself", x.chain(3), 8);
        due("28 no candidate", x.chain(5), -1);
        due("28 no candidate below", x.chain(LEAST), -1);
    }

    private static void promise29() {
        CopyBench x = sheets(8, 4, "0bbbb----;1bbbbcccc;2----cccc;3----cccc");
        x.use(2, 2);
        due("29 the first", x.group(0), 3);
        due("29 the second", x.group(1), 14);
        due("29 none such", x.group(2), -5);
        due("29 none such, far", x.group(MOST), -5);
        due("29 below", x.group(-1), -2);
        due("29 groups", x.pairs(3, 0), 2);
        due("29 the greatest", x.pairs(4, 0), 3);
        due("29 nobody", new CopyBench().group(0), -5);
    }

    private static void promise30() {
        CopyBench x = sheets(4, 8, "0bbbb;1bbbb");
        ratio("30 nobody sits", x.seated(1, 0), x.seated(1, 1), 1, 1);
        x.seat(0, 0, 0);
        x.seat(1, 0, 1);
        x.seat(2, 5, 5);
        ratio("30 one near of three", x.seated(1, 0), x.seated(1, 1), 1, 3);
        ratio("30 all near", x.seated(5, 0), x.seated(5, 1), 1, 1);
        x.seat(1, 9, 9);
        ratio("30 none near now", x.seated(1, 0), x.seated(1, 1), 1, 1);
        due("30 r below", x.seated(0, 0), NO);
        due("30 r above", x.seated(10, 0), NO);
        due("30 no part", x.seated(1, 2), NO);
        due("30 no part below", x.seated(1, -1), NO);
        CopyBench y = sheets(4, 8, "6bbbb;7bbbb");
        for (int c = 0; c < 8; c++) {
            y.seat(c, c, 0);
        }
        ratio("30 the first six alone", y.seated(1, 0), y.seated(1, 1), 1, 1);
        y.seat(0, -1, 0);
        ratio("30 another six, one of them suspect", y.seated(1, 0), y.seated(1, 1), 1, 1);
        y.seat(1, -1, 0);
        ratio("30 the last six", y.seated(1, 0), y.seated(1, 1), 1, 3);
    }

    private static int drawnByHand(int seed, int items) {
        int found = 0;
        for (int i = 0; i < items; i++) {
            seed = seed * 1103515245 + 12345;
            int one = (seed >>> 9) % 4;
            seed = seed * 1103515245 + 12345;
            int other = (seed >>> 9) % 4;
            found += one != other ? 0 : one == 0 ? 2 : 3;
        }
        return found;
    }

    private static void promise31() {
        CopyBench x = sheets(8, 3, "0abcdabcd;1abcddcba;2ab--abcd");
        x.use(4, 2);
        x.use(5, 3);
        for (int seed = -6; seed < 6; seed++) {
            due("31 seed " + seed, x.drawn(seed, 0, 1), drawnByHand(seed, 8));
            due("31 of six items, seed " + seed, x.drawn(seed, 2, 1), drawnByHand(seed, 6));
        }
        due("31 the greatest seed", x.drawn(MOST, 0, 1), drawnByHand(MOST, 8));
        CopyBench y = sheets(1, 2, "0b;1b");
        y.model(0, 1);
        y.part(0, 1, 3);
        y.part(0, 3, 2);
        // The draws of seed 0 are (12345 >>> 9) % 7 = 3 and (-740551042 >>> 9) % 7 = 4.
        due("31 by parts: 3 is b, and so is no 4", y.drawn(0, 0, 1), 0);
        due("31 alike", x.drawn(1, 1, 1), -1);
        due("31 no candidate", x.drawn(1, 0, 3), -1);
        due("31 no candidate below", x.drawn(1, -1, 0), -1);
    }

    private static void promise32() {
        CopyBench x = sheets(8, 2, "0abcdabcd;1abcddcba");
        x.use(4, 2);
        x.use(5, 3);
        for (int k = 0; k < 12; k++) {
            int found = 0;
            for (int i = 0; i < 6; i++) {
                found += drawnByHand(MOST - 2 + i, 8) >= k ? 1 : 0;
            }
            int by = found % 6 == 0 ? 6 : found % 3 == 0 ? 3 : found % 2 == 0 ? 2 : 1;
            ratio("32 k " + k, x.chance(MOST - 2, 0, 1, k, 0), x.chance(MOST - 2, 0, 1, k, 1), found / by, 6 / by);
        }
        ratio("32 k beyond all", x.chance(1, 0, 1, MOST, 0), x.chance(1, 0, 1, MOST, 1), 0, 1);
        due("32 k below", x.chance(1, 0, 1, -1, 0), NO);
        due("32 no part", x.chance(1, 0, 1, 0, 2), NO);
        due("32 no part below", x.chance(1, 0, 1, 0, -1), NO);
        due("32 alike", x.chance(1, 1, 1, 0, 0), NO);
        due("32 no candidate", x.chance(1, 0, 2, 0, 0), NO);
    }

    private static void promise33() {
        CopyBench x = Benches.with(1, 2);
        for (int i = 1; i <= 5; i++) {
            due("33 it comes", x.see(i % 2, 1 - i % 2, true), i);
        }
        due("33 full", x.see(0, 1, false), -4);
        due("33 no candidate, full", x.see(0, 2, false), -1);
        due("33 alike", x.see(1, 1, false), -1);
        due("33 no y", x.see(0, -1, true), -1);
        due("33 no x", x.see(-2, 0, true), -1);
        due("33 five", x.count(3), 5);
        due("33 none then", x.see(-1, 77, true), 0);
        due("33 none", x.count(3), 0);
        due("33 the first again", x.see(0, 1, false), 1);
    }

    private static void promise34() {
        CopyBench x = sheets(2, 4, "0bb;1bb;2aa;3aa");
        due("34 none seen", x.fits(0), 4);
        due("34 the least", x.fits(1), 0);
        x.use(2, 70);
        x.see(1, 0, true);
        due("34 by FREE and SOURCE", x.fits(0), 2);
        due("34 the least is FREE", x.fits(1), 0);
        x.see(-1, 0, true);
        x.see(0, 1, false);
        due("34 by GIVEN and BOUND", x.fits(0), 2);
        due("34 the least is GIVEN", x.fits(1), 1);
        x.see(0, 1, true);
        due("34 both can't be", x.fits(0), 0);
        due("34 no least", x.fits(1), -5);
        x.see(-1, 0, true);
        x.use(3, 1);
        x.see(0, 1, false);
        due("34 no pair isn't suspect", x.fits(0), 4);
        due("34 what is in use stays", x.count(6), 0);
        due("34 no such", x.fits(2), -1);
        due("34 no such below", x.fits(-1), -1);
    }

    private static void promise35() {
        CopyBench x = sheets(4, 3, "0bbcc;1bbcd;2-bca");
        ratio("35 mean", x.mean(0), x.mean(1), 7, 3);
        x.use(5, 3);
        ratio("35 by W", x.mean(0), x.mean(1), 7, 1);
        x.use(3, 1);
        due("35 no pairs", x.mean(0), NO);
        x.seat(0, 4, 4);
        x.seat(2, 4, 5);
        ratio("35 of those near", x.mean(0), x.mean(1), 6, 1);
        due("35 no part", x.mean(2), NO);
        due("35 no part below", x.mean(-1), NO);
        due("35 nobody", new CopyBench().mean(1), NO);
    }

    private static void promise36() {
        CopyBench x = Benches.with(2, 2);
        due("36 what 0, whatever v", x.plan(0, 1, LEAST), 1);
        due("36 what 1", x.plan(1, 1, 3), 2);
        due("36 what 2", x.plan(2, 0, 3), 3);
        due("36 what 3", x.plan(3, 0, 1), 4);
        due("36 no such", x.plan(4, 0, 0), -1);
        due("36 no such below", x.plan(-2, 0, 0), -1);
        due("36 no candidate", x.plan(0, 2, 0), -1);
        due("36 no item to be right", x.plan(1, 2, 9), -1);
        due("36 no item of a kind", x.plan(2, -1, 0), -1);
        due("36 no k", x.plan(3, 2, 0), -1);
        due("36 no v", x.plan(3, 0, 2), -1);
        due("36 no v below", x.plan(3, 0, -1), -1);
        due("36 k and v alike", x.plan(3, 1, 1), -1);
        due("36 no answer", x.plan(1, 0, 4), -2);
        due("36 no answer below", x.plan(1, 0, -1), -2);
        due("36 no kind", x.plan(2, 0, 4), -2);
        due("36 no kind below", x.plan(2, 0, -1), -2);
        for (int i = 5; i <= 8; i++) {
            due("36 it comes", x.plan(1, 0, 0), i);
        }
        due("36 full", x.plan(1, 0, 0), -4);
        due("36 bad when full", x.plan(1, 0, 4), -2);
        due("36 none when full", x.plan(0, 2, 0), -1);
        due("36 empty then", x.plan(-1, 99, 99), 0);
        due("36 empty", x.count(4), 0);
    }

    private static void promise37() {
        CopyBench x = sheets(4, 4, "0bbbb;1bbbb;2cccc");
        due("37 no plan", x.ends(), 1);
        x.plan(0, 0, 0);
        due("37 no answers", x.ends(), 0);
        x.plan(3, 0, 2);
        due("37 then another's", x.ends(), 1);
        x.plan(3, 3, 1);
        due("37 and one more's", x.ends(), 2);
        x.plan(-1, 0, 0);
        x.plan(3, 0, 2);
        x.plan(0, 2, 0);
        x.plan(3, 1, 0);
        due("37 as they are then", x.ends(), 1);
        x.plan(-1, 0, 0);
        x.plan(1, 0, 1);
        x.plan(1, 1, 1);
        x.plan(1, 2, 1);
        x.plan(1, 3, 1);
        due("37 all right", x.ends(), 0);
        x.plan(-1, 0, 0);
        for (int item = 0; item < 4; item++) {
            x.plan(2, item, 2);
        }
        x.use(2, 6);
        due("37 learnt", x.ends(), 0);
        x.plan(-1, 0, 0);
        due("37 even", x.ends(), 1);
        due("37 nothing became so", x.answer(0, 0) + 10 * x.itemOf(0, 0) + 100 * x.itemOf(0, 1), 1);
    }

    private static void promise38() {
        CopyBench x = sheets(3, 1, "0b-d");
        x.tape(1, 0, 5);
        due("38 the first", x.judge(0, 1, 0), 0);
        int[] told = {9, 1, 255, 3, 0};
        for (int i = 0; i < 5; i++) {
            x.item(1, i, told[i]);
        }
        due("38 none is otherwise", x.judge(0, 1, 1), -5);
        x.item(1, 3, 2);
        due("38 the third", x.judge(0, 1, 1), 2);
        x.item(1, 2, 0);
        due("38 the second", x.judge(0, 1, 1), 1);
        due("38 below", x.judge(0, 1, -1), 100);
        due("38 behind the end", x.judge(0, 1, 5), 100);
        due("38 far behind the end", x.judge(0, 1, MOST), 100);
        x.item(1, 4, 1);
        due("38 ends ahead", x.judge(0, 1, 4), 101);
        x.item(1, 3, 1);
        x.item(1, 4, -1);
        due("38 ends ahead of the last", x.judge(0, 1, 3), 102);
        due("38 nothing", x.judge(0, 0, 0), 100);
        x.tape(2, 4, 5);
        due("38 no bytes", x.judge(0, 2, -1), -12);
        x.tape(2, 0, 0);
        due("38 no items", x.judge(0, 2, 0), 100);
        due("38 no candidate", x.judge(1, 1, 0), -1);
        due("38 no candidate below", x.judge(-1, 1, 0), -1);
        due("38 no tape", x.judge(0, 6, 0), -1);
        due("38 no tape below", x.judge(0, -1, 0), -1);
    }

    private static void promise39() {
        CopyBench x = Benches.with(2, 3);
        due("39 candidates", x.image(), 3);
        x.candidate();
        due("39 another image", x.image(), 4);
        x.items(1);
        due("39 the last one", x.undo(), 4);
    }

    private static void promise40() {
        CopyBench x = sheets(3, 2, "0ab;1ab");
        due("40 none", x.undo(), -3);
        x.seat(1, 2, 3);
        x.right(0, 2);
        x.model(0, 3);
        x.part(0, 0, 2);
        x.see(0, 1, true);
        x.plan(2, 0, 1);
        int[] uses = {1, 2, 30, 4, 2, 3};
        for (int what = 0; what < 6; what++) {
            x.use(what, uses[what]);
        }
        x.image();
        x.items(8);
        x.feed('0');
        x.tape(0, 0, 1);
        for (int what = 0; what < 6; what++) {
            x.use(what, 1);
        }
        due("40 candidates", x.undo(), 2);
        int[] then = {3, 2, 1, 1, 1, 1, 1, 2, 30, 4, 2, 3};
        for (int what = 0; what < 12; what++) {
            due("40 count " + what, x.count(what), then[what]);
        }
        due("40 answers", x.answer(0, 1), 1);
        due("40 place", x.of(1, 3), 3);
        due("40 row", x.of(1, 2), 2);
        due("40 right", x.itemOf(0, 0), 2);
        due("40 kind", x.itemOf(0, 1), 3);
        due("40 tapes stay", x.peek(0, 0), 0);
        due("40 part", x.part(0, 0, 3), 2);
        x.gives(0, 1, 3);
        due("40 again", x.undo(), 2);
        due("40 the image is as it was taken", x.answer(0, 1), 1);
        due("40 the part, too", x.part(0, 0, 3), 2);
        x.use(3, 0);
        due("40 what is seen", x.fits(0), 0);
    }

    private static void promise41() {
        CopyBench x = sheets(5, 3, "0a");
        x.seat(0, 0, 0);
        x.seat(2, 0, 1);
        x.see(0, 1, true);
        x.see(0, 1, true);
        x.see(0, 1, true);
        x.plan(0, 0, 0);
        x.feed('a');
        x.feed('a');
        x.feed('a');
        x.feed('a');
        int[] uses = {3, 2, 77, 8, 1, 4};
        for (int what = 0; what < 6; what++) {
            x.use(what, uses[what]);
        }
        int[] due = {5, 3, 2, 3, 1, 4, 3, 2, 77, 8, 1, 4};
        for (int what = 0; what < 12; what++) {
            due("41 count " + what, x.count(what), due[what]);
        }
        due("41 no such", x.count(12), -2);
        due("41 no such below", x.count(-1), -2);
        due("41 no such far", x.count(MOST), -2);
    }

    private static void promise42() {
        CopyBench x = new CopyBench();
        for (int sort = 0; sort < 5; sort++) {
            due("42 a row", x.tape(sort, sort, 60), 1);
            due("42 all 0", x.peek(sort, 59), 0);
        }
        due("42 none", x.tape(5, 0, 0), 1);
        due("42 none is a row", x.item(5, 0, 1), -13);
        x.item(0, 3, 7);
        due("42 again", x.tape(0, 1, 4), 1);
        due("42 all 0 again", x.peek(0, 3), 0);
        due("42 no tape", x.tape(6, 9, 0), -1);
        due("42 no tape below", x.tape(-1, -1, 0), -1);
        due("42 no sort", x.tape(0, 5, -1), -2);
        due("42 no sort below", x.tape(0, -2, 0), -2);
        due("42 too long", x.tape(0, 0, 61), -2);
        due("42 a size below 0", x.tape(0, 0, -1), -14);
        due("42 far below 0", x.tape(0, 4, LEAST), -14);
        x.item(0, 3, 7);
        due("42 it stays", x.peek(0, 3), 7);
        due("42 nothing, whatever n", x.tape(0, -1, LEAST), 1);
        due("42 nothing, however great n", x.tape(0, -1, MOST), 1);
        due("42 it holds nothing", x.item(0, 0, 1), -11);
    }

    private static void promise43() {
        CopyBench x = new CopyBench();
        long v = 0x123456789ABCDEF0L;
        long[] due = {(byte) 0xF0, (short) 0xDEF0, (int) 0x9ABCDEF0L, v, 1};
        for (int sort = 0; sort < 5; sort++) {
            x.tape(sort, sort, 3);
            due("43 becomes", x.item(sort, 2, v), 1);
            due("43 its lowest bits", x.peek(sort, 2), due[sort]);
            due("43 becomes 0", x.item(sort, 2, 0), 1);
            due("43 is 0", x.peek(sort, 2), 0);
            due("43 becomes -1", x.item(sort, 0, -1), 1);
            due("43 is -1, or so", x.peek(sort, 0), sort == 4 ? 1 : -1);
            due("43 no place", x.item(sort, 3, 1), -13);
            due("43 no place below", x.item(sort, -1, 1), -13);
        }
        due("43 a boolean by its high bits", x.item(4, 1, 256) * x.peek(4, 1), 1);
        due("43 nothing", x.item(5, -1, 1), -11);
        due("43 no tape", x.item(6, 0, 1), -1);
        due("43 no tape below", x.item(-1, 0, 1), -1);
    }

    private static void promise44() {
        CopyBench x = new CopyBench();
        x.tape(5, 2, 2);
        x.item(5, 1, 77);
        due("44 an item", x.peek(5, 1), 77);
        due("44 another", x.peek(5, 0), 0);
        due("44 no place", x.peek(5, 2), NO);
        due("44 no place below", x.peek(5, -1), NO);
        due("44 nothing", x.peek(0, 0), NO);
        due("44 no tape", x.peek(6, 0), NO);
        due("44 no tape below", x.peek(-1, 0), NO);
    }

    private static void promise45() {
        CopyBench x = new CopyBench();
        x.tape(0, 1, 5);
        x.tape(1, 1, 3);
        x.tape(2, 2, 3);
        for (int i = 0; i < 5; i++) {
            x.item(0, i, i + 1);
        }
        due("45 to the end", x.shift(0, 0, 0, 2, 3), 3);
        due("45 as they were before", x.peek(0, 4), 3);
        due("45 the others stay", x.peek(0, 1), 2);
        due("45 to the beginning", x.shift(0, 2, 0, 0, 3), 3);
        due("45 as they were, too", x.peek(0, 0) * 100 + x.peek(0, 1) * 10 + x.peek(0, 2), 123);
        due("45 to another", x.shift(0, 1, 1, 1, 2), 2);
        due("45 there", x.peek(1, 0) * 100 + x.peek(1, 1) * 10 + x.peek(1, 2), 23);
        due("45 a whole one", x.shift(1, 0, 0, 0, 3), 3);
        due("45 a whole one to a whole one", x.shift(1, 0, 1, 0, 3), 3);
        due("45 the whole one is there", x.peek(0, 0) * 100 + x.peek(0, 1) * 10 + x.peek(0, 2), 23);
        due("45 none at the end", x.shift(0, 5, 1, 3, 0), 0);
        due("45 none beyond the end", x.shift(0, 6, 1, 0, 0), -13);
        due("45 beyond one's end", x.shift(0, 3, 1, 0, 3), -13);
        due("45 beyond the other's end", x.shift(0, 0, 1, 1, 3), -13);
        due("45 n below", x.shift(0, 0, 1, 0, -1), -13);
        due("45 i below", x.shift(0, -1, 1, 0, 1), -13);
        due("45 j below", x.shift(0, 0, 1, -1, 1), -13);
        due("45 the greatest", x.shift(0, MOST, 1, MOST, MOST), -13);
        due("45 unlike sorts", x.shift(0, -1, 2, 0, 1), -12);
        due("45 nothing here", x.shift(3, 0, 2, 0, 1), -11);
        due("45 nothing there", x.shift(2, -1, 3, 0, 1), -11);
        due("45 no tape", x.shift(6, 0, 3, 0, 1), -1);
        due("45 no tape there", x.shift(3, 0, -1, 0, 1), -1);
    }
}
