import java.util.ArrayList;
import java.util.Arrays;
import java.util.List;

/** Objects to begin a test with, and all that can be asked of one. */
final class Benches {
    /** An item of a row of each sort keeps another part of it. */
    private static final long MANY_BITS = 0x2_9003_A085L;

    private Benches() {
    }

    static CopyBench with(int items, int candidates) {
        CopyBench x = new CopyBench();
        x.items(items);
        for (int i = 0; i < candidates; i++) {
            x.candidate();
        }
        return x;
    }

    static void feed(CopyBench x, String text) {
        for (int i = 0; i < text.length(); i++) {
            x.feed(text.charAt(i));
        }
    }

    static int tell(CopyBench x, String text) {
        feed(x, text);
        return x.read();
    }

    static CopyBench sheets(int items, int candidates, String text) {
        CopyBench x = with(items, candidates);
        tell(x, text);
        return x;
    }

    /** More candidates than items; of the rest what some() has. */
    static CopyBench crowd() {
        CopyBench x = with(2, 6);
        tell(x, "0bc;1bc;2cb;5-d");
        for (int c = 0; c < 5; c++) {
            x.seat(c, 0, c);
        }
        x.model(1, 3);
        x.use(2, 200);
        x.see(5, 0, false);
        x.plan(3, 5, 0);
        tapes(x);
        return x;
    }

    /** Six alike, in a row of seats but for one; those who sit near are suspect, by steps. */
    static CopyBench nearOnes() {
        CopyBench x = with(6, 6);
        tell(x, "0bbbbbb;1bbbbb;2bbbbbc;3bbbbcc");
        tell(x, "4abb-bb;5abcbbb");
        for (int c = 0; c < 6; c++) {
            x.seat(c, c == 2 ? 9 : 0, c);
        }
        for (int item = 0; item < 5; item++) {
            x.model(item, item % 4);
        }
        x.part(1, 1, 2);
        int[] uses = {0, 2, 300, 1, 1, 2};
        for (int what = 0; what < uses.length; what++) {
            x.use(what, uses[what]);
        }
        x.see(0, 1, true);
        x.see(4, 2, false);
        x.plan(3, 3, 2);
        x.plan(0, 0, 0);
        tapes(x);
        feed(x, "5dd");
        return x;
    }

    private static void tapes(CopyBench x) {
        int[] sizes = {4, 3, 0, 2, 2};
        for (int sort = 0; sort < sizes.length; sort++) {
            x.tape(sort, sort, sizes[sort]);
            x.item(sort, 1, sort + 1);
        }
    }

    /** Four items, three candidates, some of everything; of the rows one is empty, one tape holds nothing. */
    static CopyBench some() {
        CopyBench x = sheets(4, 2, "0bc-;1bca");
        x.part(0, 1, 2);
        x.image();
        x.candidate();
        tell(x, "2bd");
        x.seat(0, 0, 0);
        x.seat(1, 9, 9);
        x.model(1, 2);
        x.model(2, 3);
        x.right(2, 1);
        x.part(2, 3, 3);
        int[] uses = {2, 2, 300, 0, 1, 2};
        for (int what = 0; what < uses.length; what++) {
            x.use(what, uses[what]);
        }
        x.see(0, 1, true);
        x.see(2, 1, false);
        x.plan(0, 0, 0);
        x.plan(3, 2, 1);
        tapes(x);
        feed(x, "0da;1-");
        return x;
    }

    /** Nothing more goes in: eight items and candidates, all seats had, seen, the plan and the text full. */
    static CopyBench full() {
        CopyBench x = with(8, 7);
        x.image();
        x.candidate();
        for (int c = 0; c < 8; c++) {
            x.seat(c, c, 9 - c);
            x.gives(c, 0, c / 3);
            x.gives(c, 1, 3);
            x.gives(c, 7, 3 - c / 2);
        }
        for (int item = 0; item < 8; item++) {
            x.model(item, item % 4);
        }
        x.part(1, 3, 3);
        x.right(7, 3);
        int[] uses = {3, 3, 500, 9, 2, 4};
        for (int what = 0; what < uses.length; what++) {
            x.use(what, uses[what]);
        }
        for (int i = 0; i < 5; i++) {
            x.see(i, 7, i % 2 == 0);
        }
        for (int i = 0; i < 8; i++) {
            x.plan(i % 4, i, i % 4 == 3 ? 0 : 2);
        }
        feed(x, "7" + "c".repeat(59));
        for (int tape = 0; tape < 6; tape++) {
            x.tape(tape, tape % 5, 60);
        }
        return x;
    }

    /** All that an object answers; it must not be used for anything else then. */
    static List<Long> print(CopyBench x) {
        List<Long> all = new ArrayList<>();
        printSheets(x, all);
        all.addAll(Arrays.asList((long) x.pairs(1, 0), (long) x.fits(0), (long) x.fits(1), (long) x.ends()));
        printTapes(x, all);
        int items = x.count(0);
        for (int item = 0; item < items; item++) {
            for (int answer = 0; answer < 4; answer++) {
                all.add((long) x.part(item, answer, 1));
            }
        }
        all.add((long) x.read());
        all.add((long) x.count(5));
        printAnswers(x, all);
        all.add((long) x.undo());
        printSheets(x, all);
        return all;
    }

    private static void printSheets(CopyBench x, List<Long> all) {
        for (int what = 0; what < 12; what++) {
            all.add((long) x.count(what));
        }
        int items = x.count(0);
        for (int item = 0; item < items; item++) {
            all.add((long) x.itemOf(item, 0));
            all.add((long) x.itemOf(item, 1));
        }
        int candidates = x.count(1);
        for (int c = 0; c < candidates; c++) {
            all.add((long) x.of(c, 2));
            all.add((long) x.of(c, 3));
        }
        printAnswers(x, all);
    }

    private static void printAnswers(CopyBench x, List<Long> all) {
        int candidates = x.count(1);
        int items = Math.min(3, x.count(0));
        for (int c = 0; c < candidates; c++) {
            for (int item = 0; item < items; item++) {
                all.add((long) x.answer(c, item));
            }
            all.add((long) x.of(c, 0));
        }
    }

    private static void printTapes(CopyBench x, List<Long> all) {
        for (int tape = 0; tape < 6; tape++) {
            for (int i = 0; i < 5; i++) {
                all.add(x.peek(tape, i));
            }
            all.add(x.peek(tape, 59));
            all.add((long) x.item(tape, 0, MANY_BITS));
            all.add(x.peek(tape, 0));
        }
    }
}
