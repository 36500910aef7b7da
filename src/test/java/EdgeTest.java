import java.util.List;
import java.util.function.Supplier;

/** The edges of items, candidates, seats, the text, seen rows, the plan, the image and tapes: what is still taken. */
public final class EdgeTest {
    private static final int LEAST = Integer.MIN_VALUE, MOST = Integer.MAX_VALUE;
    private static final long NO = Long.MIN_VALUE;
    private static final Due DUE = new Due("EdgeTest");

    public static void main(String[] args) {
        calls();
        promise1();
        promise2();
        promise3To5();
        promise6();
        promise7();
        promise8();
        promise8Each();
        promise9();
        promise10();
        promise10Edges();
        promise10Whole();
        promise11();
        promise12And13();
        promise14();
        promise15();
        promise16();
        promise33();
        promise36();
        promise38();
        promise39And40();
        promise41();
        promise42();
        promise43();
        promise44();
        promise45();
        promise45Sorts();
        promise45Overlap();
        asked();
        DUE.end();
    }

    private static void due(String call, long got, long want) {
        DUE.is(call, got, want);
    }

    /** What it is: 512 calls, of which the last ones answer as the first ones did. */
    private static void calls() {
        CopyBench x = Benches.sheets(4, 2, "0bbcc;1bbcc");
        int used = 1 + 2 + 11 + 1;
        for (; used < 511; used++) {
            due("0 call " + used, x.odds(0, 1, used % 2, 0), used % 2 == 0 ? 81 : 1);
        }
        due("0 call 512", x.odds(0, 1, 1, 1), 81);
        CopyBench y = new CopyBench();
        for (int call = 0; call < 511; call++) {
            y.feed('0');
        }
        due("0 the 512th call", y.count(5), 60);
        CopyBench z = new CopyBench();
        for (int call = 0; call < 256; call++) {
            due("0 an image, then what it was", z.image() + 10 * z.undo(), 0);
        }
    }

    private static void promise1() {
        CopyBench x = new CopyBench();
        for (int item = 0; item < 4; item++) {
            due("1 RIGHT of " + item, x.itemOf(item, 0), 0);
            due("1 KIND of " + item, x.itemOf(item, 1), 0);
            due("1 nobody gave an answer to " + item, x.itemOf(item, 2), 0);
            for (int answer = 0; answer < 4; answer++) {
                due("1 PART of " + answer + " to " + item, x.part(item, answer, 1), 1);
            }
        }
        due("1 no more items", x.itemOf(4, 0), -1);
        due("1 no candidate", x.of(0, 0), -1);
        due("1 no suspects", x.pairs(1, 0), 0);
        due("1 no groups", x.pairs(3, 0), 0);
        due("1 none is the greatest", x.pairs(4, 0), 0);
        due("1 nothing seen, so all fit", x.fits(0), 4);
        due("1 no plan, no suspects", x.ends(), 0);
        for (int tape = 0; tape < 6; tape++) {
            due("1 nothing on tape " + tape, x.item(tape, 0, 0), -11);
        }
        due("1 the text is empty", x.read(), -10);
        due("1 no image", x.undo(), -3);
    }

    private static void promise2() {
        CopyBench x = new CopyBench();
        int was = 4;
        for (int n : new int[] {1, 8, 8, 1, 2, 3, 4, 5, 6, 7}) {
            due("2 n becomes " + n, x.items(n), was);
            due("2 ITEMS " + n, x.count(0), n);
            due("2 the last of " + n, x.right(n - 1, 3), 0);
            due("2 none behind the last of " + n, x.right(n, 3), -1);
            was = n;
        }
        CopyBench y = Benches.full();
        due("2 the same n", y.items(8), 8);
        int[] then = {8, 0, 0, 0, 0, 60, 3, 3, 500, 9, 2, 4};
        for (int what = 0; what < 12; what++) {
            due("2 count " + what + " then", y.count(what), then[what]);
        }
        for (int item = 0; item < 8; item++) {
            due("2 RIGHT of " + item, y.itemOf(item, 0), 0);
            due("2 KIND of " + item, y.itemOf(item, 1), 0);
            due("2 PART of 3 to " + item, y.part(item, 3, 1), 1);
        }
        for (int c = 0; c < 8; c++) {
            due("2 a candidate comes", y.candidate(), c);
            due("2 without answers", y.of(c, 0), 0);
            due("2 without a seat", y.of(c, 2) + y.of(c, 3), -10);
        }
        due("2 the seats are free", y.seat(0, 7, 2), 1);
        due("2 nothing is seen", y.see(0, 1, true), 1);
        due("2 the plan is empty", y.plan(0, 0, 0), 1);
        for (int tape = 0; tape < 6; tape++) {
            due("2 tape " + tape + " stays", y.peek(tape, 59), 0);
        }
        due("2 the text stays", y.read(), -10 - 9);
        due("2 the image stays", y.undo(), 7);
    }

    private static void promise3To5() {
        for (int n : new int[] {1, 8}) {
            CopyBench x = Benches.with(n, 0);
            int was = 0;
            for (int a : new int[] {0, 3, 3, 1, 2, 0}) {
                due("3 RIGHT becomes " + a, x.right(n - 1, a), was);
                due("4 KIND becomes " + a, x.model(n - 1, a), was);
                was = a;
            }
            for (int answer = 0; answer < 4; answer++) {
                int part = 1;
                for (int v : new int[] {1, 3, 3, 2, 1}) {
                    due("5 PART becomes " + v, x.part(n - 1, answer, v), part);
                    part = v;
                }
            }
        }
        CopyBench y = Benches.with(8, 0);
        y.right(7, 3);
        y.model(7, 3);
        y.part(7, 3, 3);
        for (int item = 0; item < 7; item++) {
            due("3 the others' RIGHT", y.itemOf(item, 0), 0);
            due("4 the others' KIND", y.itemOf(item, 1), 0);
            due("5 the others' PART", y.part(item, 3, 1), 1);
        }
        due("5 another answer's PART", y.part(7, 2, 1), 1);
    }

    private static void promise6() {
        CopyBench x = new CopyBench();
        due("6 the first", x.candidate(), 0);
        for (int c = 1; c < 7; c++) {
            x.candidate();
        }
        due("6 the last", x.candidate(), 7);
        due("6 FULL", x.candidate(), -4);
        due("6 FULL again", x.candidate(), -4);
        due("6 the last is there", x.gives(7, 0, 0), -5);
        due("6 no ninth", x.gives(8, 0, 0), -1);
        x.items(4);
        due("6 the first again", x.candidate(), 0);
    }

    private static void promise7() {
        CopyBench x = Benches.with(8, 8);
        int[] told = {-1, 0, 3, -1, -1, 1, 2, 2, -1};
        int was = -5;
        for (int answer : told) {
            due("7 the last one's ANSWER becomes " + answer, x.gives(7, 7, answer), was);
            was = answer == -1 ? -5 : answer;
            due("7 it is", x.answer(7, 7), was);
        }
        x.gives(6, 2, 1);
        due("7 neither the item's nor the candidate's number twice", x.gives(6, 2, 3), 1);
        due("7 nor turned around", x.gives(2, 6, 0), -5);
        due("7 it stays", x.answer(6, 2), 3);
        x.gives(0, 0, 3);
        due("7 the first one's", x.gives(0, 0, 0), 3);
        due("7 nobody else's", x.answer(1, 0), -5);
        due("7 of no other item", x.answer(0, 1), -5);
    }

    private static void promise8() {
        CopyBench x = Benches.with(1, 8);
        int[][] corners = {{0, 0}, {0, 9}, {9, 0}, {9, 9}};
        for (int c = 0; c < 4; c++) {
            due("8 a corner", x.seat(c, corners[c][0], corners[c][1]), 1);
            due("8 its row", x.of(c, 2), corners[c][0]);
            due("8 its place", x.of(c, 3), corners[c][1]);
            due("8 another one has it", x.seat(7, corners[c][0], corners[c][1]), -3);
        }
        due("8 the last stands", x.of(7, 2), -5);
        due("8 a place of the same row", x.seat(4, 0, 1), 1);
        due("8 the same place of a row", x.seat(5, 1, 0), 1);
        due("8 its own again", x.seat(0, 0, 0), 1);
        due("8 it moves", x.seat(0, 5, 5), 1);
        due("8 what it had is free", x.seat(7, 0, 0), 1);
        due("8 what it has is not", x.seat(7, 5, 5), -3);
        for (int place : new int[] {LEAST, -1, 0, 9, 10, MOST}) {
            x.seat(3, 9, 9);
            due("8 none, place " + place, x.seat(3, -1, place), 1);
            due("8 it has none", x.of(3, 2) + x.of(3, 3), -10);
            due("8 none again, place " + place, x.seat(3, -1, place), 1);
        }
        due("8 what it left is free", x.seat(6, 9, 9), 1);
        due("8 two without a seat", x.seat(0, -1, 0) + x.seat(1, -1, 0), 2);
    }

    /** Each seat, had by each candidate: nobody else can have it, and the next ones are free. */
    private static void promise8Each() {
        for (int seat = 0; seat < 100; seat++) {
            int row = seat / 10;
            int place = seat % 10;
            int had = seat % 8;
            CopyBench x = Benches.with(1, 8);
            due("8 seat " + seat, x.seat(had, row, place), 1);
            due("8 its row and place", 10 * x.of(had, 2) + x.of(had, 3), seat);
            for (int other = 0; other < 8; other++) {
                due("8 " + other + " takes seat " + seat, x.seat(other, row, place), other == had ? 1 : -3);
            }
            int next = (had + 1) % 8;
            due("8 the next place of " + seat, x.seat(next, row, (place + 1) % 10), 1);
            due("8 the next row of " + seat, x.seat(next, (row + 1) % 10, place), 1);
            due("8 turned around", x.seat(next, place, row), row == place ? -3 : 1);
        }
    }

    private static void promise9() {
        CopyBench x = Benches.with(1, 1);
        for (int sign : new int[] {0, 127, 1, 126}) {
            due("9 a sign " + sign, x.feed(sign), 1);
            due("9 is no digit", x.read(), -10);
        }
        for (int k = 1; k < 60; k++) {
            due("9 how many", x.feed(k == 1 ? '0' : 'a'), k);
        }
        due("9 the sixtieth", x.feed(127), 60);
        due("9 one more", x.feed(0), -4);
        due("9 and one more", x.feed('a'), -4);
        due("9 BAD goes ahead of FULL", x.feed(-1), -2);
        due("9 sixty still", x.count(5), 60);
        due("9 its fault is where it was", x.read(), -12);
        due("9 room again", x.feed('0'), 1);
        due("9 one more then", x.feed('d'), 2);
        due("9 the new text alone", x.read(), 1);
        due("9 is what is read", x.answer(0, 0), 3);
    }

    private static void reads(String text, int want) {
        CopyBench x = Benches.sheets(3, 3, "0ddd;1ddd;2ddd");
        due("10 '" + text + "'", Benches.tell(x, text), want);
        due("10 the text is empty behind '" + text + "'", x.count(5), 0);
        for (int c = 0; c < 3 && want < 0; c++) {
            for (int item = 0; item < 3; item++) {
                due("10 nothing became so by '" + text + "'", x.answer(c, item), 3);
            }
        }
    }

    private static void promise10() {
        reads("0a", 1);
        reads("2-", 1);
        reads("0abc", 1);
        reads("0---;1---;2---;0---", 4);
        reads("0a;0b;0c;0d", 4);
        // It ends too early: the fault is at its end.
        reads("", -10);
        reads("0", -11);
        reads("0a;", -13);
        reads("0a;1", -14);
        reads("0abc;1abc;2abc;", -25);
        reads("0abc;1abc;2abc;0", -26);
        // Four clauses, and no more.
        reads("0a;1a;2a;0a", 4);
        reads("0a;1a;2a;0a;", -21);
        reads("0abc;1abc;2abc;0abc;1a", -29);
        // n letters, and no more; one, and no fewer.
        reads("0abca", -14);
        reads("0abc-", -14);
        reads("0a;1abca", -17);
        reads("0;1a", -11);
        reads("0a;;1a", -13);
        reads(";0a", -10);
        // Candidates that there are.
        reads("3a", -10);
        reads("0a;3a", -13);
        reads("9a", -10);
        reads("/a", -10);
        reads(":a", -10);
        reads("00a", -11);
    }

    private static void promise10Edges() {
        for (String sign : new String[] {"`", "e", "A", "D", ",", ".", "0", " ", "\u0000", "\u007f", "\n"}) {
            reads("0" + sign, -11);
            reads("0a" + sign, -12);
            reads("0ab" + sign + "c", -13);
        }
        for (String sign : new String[] {" ", "a", "-", ";", "\u0000", "\u007f"}) {
            reads(sign + "0a", -10);
            reads("1d;" + sign + "0a", -13);
        }
        CopyBench x = Benches.with(1, 8);
        due("10 the last candidate", Benches.tell(x, "7d"), 1);
        due("10 its answer", x.answer(7, 0), 3);
        due("10 no ninth candidate", Benches.tell(x, "8a"), -10);
        due("10 one item", Benches.tell(x, "7dd"), -12);
        CopyBench y = Benches.with(8, 1);
        due("10 eight items", Benches.tell(y, "0aaaabbbb"), 1);
        due("10 the last item", y.answer(0, 7), 1);
        due("10 no ninth item", Benches.tell(y, "0aaaabbbbc"), -19);
        due("10 none became so", y.answer(0, 7), 1);
        CopyBench nobody = new CopyBench();
        due("10 no candidates", Benches.tell(nobody, "0a"), -10);
        due("10 an empty text, no candidates", nobody.read(), -10);
        CopyBench z = Benches.with(8, 4);
        due("10 the longest", Benches.tell(z, "0aaaaaaaa;1bbbbbbbb;2cccccccc;3dddddddd"), 4);
        due("10 its last letter", z.answer(3, 7), 3);
        due("10 the longest, and one more", Benches.tell(z, "0bbbbbbbb;1bbbbbbbb;2bbbbbbbb;3bbbbbbbbb"), -49);
        due("10 none of it became so", z.answer(0, 0), 0);
        String three = "0bbbbbbbb;1bbbbbbbb;2bbbbbbbb";
        due("10 three of the longest end with ;", Benches.tell(z, three + ";"), -10 - 30);
        due("10 three of the longest and a digit", Benches.tell(z, three + ";3"), -10 - 31);
        due("10 four of the longest end with ;", Benches.tell(z, three + ";3bbbbbbbb;"), -10 - 39);
        due("10 none of these became so", z.answer(0, 7) + z.answer(2, 0), 2);
        for (int end = 0; end < three.length(); end++) {
            boolean whole = end % 10 > 1;
            due("10 the first " + end, Benches.tell(z, three.substring(0, end)), whole ? end / 10 + 1 : -10 - end);
        }
    }

    private static void promise10Whole() {
        CopyBench x = Benches.sheets(3, 2, "0abc;1ddd");
        due("10 what isn't told stays", Benches.tell(x, "0-;1ab"), 2);
        due("10 none", x.answer(0, 0), -5);
        due("10 the second stays", x.answer(0, 1), 1);
        due("10 the third stays", x.answer(0, 2), 2);
        due("10 another's third stays", x.answer(1, 2), 3);
        due("10 one clause behind the other", Benches.tell(x, "0aaa;0bb;0c"), 3);
        due("10 of the last", x.answer(0, 0), 2);
        due("10 of the last but one", x.answer(0, 1), 1);
        due("10 of the first", x.answer(0, 2), 0);
        x.feed('1');
        due("10 the text goes on", x.feed('c'), 2);
        x.right(0, 1);
        due("10 whatever is between", x.read(), 1);
        due("10 is answered", x.answer(1, 0), 2);
        x.feed('1');
        x.items(2);
        due("10 candidates of then", Benches.tell(x, "c"), -10);
    }

    private static void promise11() {
        CopyBench x = new CopyBench();
        int[] least = {0, 0, 1, 0, 0, 1};
        int[] most = {3, 3, 500, 9, 2, 4};
        int[] was = {0, 0, 50, 0, 0, 1};
        for (int what = 0; what < 6; what++) {
            int low = least[what];
            int high = most[what];
            for (int v : new int[] {low, low + 1, high, high, high - 1, low}) {
                due("11 use " + what + " " + v, x.use(what, v), was[what]);
                was[what] = v;
                due("11 in use " + what, x.count(6 + what), v);
            }
            for (int other = 0; other < 6; other++) {
                due("11 the others stay", x.count(6 + other), was[other]);
            }
        }
    }

    private static void promise12And13() {
        CopyBench x = Benches.sheets(8, 8, "0aaaaaaaa;7bbbbbbbb;1-------a");
        due("12 the first", x.answer(0, 0), 0);
        due("12 the last", x.answer(7, 7), 1);
        due("12 none", x.answer(1, 6), -5);
        due("12 the last of it", x.answer(1, 7), 0);
        due("13 all", x.of(0, 0), 8);
        due("13 all RIGHT", x.of(0, 1), 8);
        due("13 all, WRONG", x.of(7, 0), 8);
        due("13 no RIGHT ones", x.of(7, 1), 0);
        due("13 one", x.of(1, 0), 1);
        due("13 one RIGHT one", x.of(1, 1), 1);
        due("13 none", x.of(2, 0), 0);
        due("13 none RIGHT", x.of(2, 1), 0);
        x.right(7, 1);
        due("13 one RIGHT one now", x.of(7, 1), 1);
        due("13 it is no more", x.of(1, 1), 0);
        due("13 no row", x.of(7, 2), -5);
        due("13 no place", x.of(7, 3), -5);
        x.seat(7, 9, 0);
        due("13 the last row", x.of(7, 2), 9);
        due("13 the first place", x.of(7, 3), 0);
    }

    private static void promise14() {
        CopyBench x = Benches.with(8, 8);
        due("14 nobody gave one", x.itemOf(7, 2), 0);
        due("14 nor a WRONG one", x.itemOf(7, 3), 0);
        int[] first = {1, 0, 0, 0};
        for (int right = 0; right < 4; right++) {
            x.right(7, right);
            due("14 of like ones the first, RIGHT " + right, x.itemOf(7, 4), first[right]);
        }
        for (int c = 0; c < 8; c++) {
            x.gives(c, 7, 3);
        }
        due("14 all gave one", x.itemOf(7, 2), 8);
        due("14 none a WRONG one", x.itemOf(7, 3), 0);
        due("14 the RIGHT one does not count", x.itemOf(7, 4), 0);
        x.right(7, 0);
        due("14 all a WRONG one", x.itemOf(7, 3), 8);
        due("14 the last", x.itemOf(7, 4), 3);
        for (int c = 0; c < 4; c++) {
            x.gives(c, 7, 2);
        }
        due("14 four and four", x.itemOf(7, 4), 2);
        x.gives(0, 7, -1);
        due("14 three and four", x.itemOf(7, 4), 3);
        due("14 seven gave one", x.itemOf(7, 2), 7);
        due("14 no other item", x.itemOf(6, 2), 0);
        CopyBench nobody = new CopyBench();
        due("14 no candidates", nobody.itemOf(3, 2) + nobody.itemOf(3, 3), 0);
        due("14 of like ones the first, without candidates", nobody.itemOf(3, 4), 1);
    }

    private static void promise15() {
        CopyBench x = Benches.with(8, 0);
        int[][] due = {{0, 0, -12, -12, -12}, {1, 1, 1, -12, -12}, {2, -12, -12, 2, -12}, {3, -12, -12, 3, 3}};
        for (int kind = 0; kind < 4; kind++) {
            x.model(7, kind);
            for (int sort = 0; sort < 5; sort++) {
                due("15 the last item, KIND " + kind + " for sort " + sort, x.taken(7, sort), due[kind][sort]);
            }
        }
    }

    private static void promise16() {
        CopyBench x = Benches.with(8, 8);
        int[] none = {4, 12, 4, 4};
        for (int answer = 0; answer < 4; answer++) {
            x.part(7, answer, 3);
        }
        for (int kind = 0; kind < 4; kind++) {
            x.model(7, kind);
            due("16 nobody gave one, KIND " + kind, x.share(7, -1, 0, 7), none[kind]);
        }
        for (int c = 0; c < 8; c++) {
            x.gives(c, 7, 3);
        }
        int[][] due = {{1, 1, 4}, {3, 3, 12}, {1, 9, 12}, {1, 7, 10}};
        for (int kind = 0; kind < 4; kind++) {
            x.model(7, kind);
            due("16 of the first ANSWER, KIND " + kind, x.share(7, 0, 6, 7), due[kind][0]);
            due("16 of the last ANSWER, KIND " + kind, x.share(7, 3, 7, 0), due[kind][1]);
            due("16 SUM, KIND " + kind, x.share(7, -1, 0, 1), due[kind][2]);
        }
        x.gives(0, 7, -1);
        x.gives(1, 7, 0);
        due("16 BARE, one of the two without an ANSWER", x.share(7, 3, 0, 2), 6);
        due("16 BARE, one of the two of another ANSWER", x.share(7, 3, 1, 2), 6);
        due("16 BARE, both such ones", x.share(7, 3, 0, 1), 7);
        due("16 BARE, its ANSWER not counted", x.share(7, 0, 0, 1), 1);
        due("16 BARE, its ANSWER counted", x.share(7, 0, 2, 3), 2);
        x.model(7, 2);
        due("16 LEARNT, the two are counted", x.share(7, 3, 2, 3), 7);
    }

    private static void promise33() {
        CopyBench x = Benches.with(1, 8);
        int[][] rows = {{0, 1}, {1, 0}, {0, 1}, {7, 6}, {6, 7}};
        for (int i = 0; i < 5; i++) {
            due("33 a row comes", x.see(rows[i][0], rows[i][1], i % 2 == 0), i + 1);
        }
        due("33 a sixth", x.see(2, 3, true), -4);
        due("33 five", x.count(3), 5);
        for (int y : new int[] {LEAST, -1, 0, 8, MOST}) {
            due("33 none then, y " + y, x.see(-1, y, y > 0), 0);
            due("33 none", x.count(3), 0);
            due("33 the first again", x.see(7, 0, true), 1);
        }
        due("33 none of none", new CopyBench().see(-1, 0, true), 0);
        due("33 no candidates", new CopyBench().see(0, 1, true), -1);
    }

    private static void promise36() {
        CopyBench x = Benches.with(8, 8);
        due("36 the least v of what 0", x.plan(0, 0, LEAST), 1);
        due("36 the greatest v of what 0", x.plan(0, 7, MOST), 2);
        due("36 the last item RIGHT", x.plan(1, 7, 3), 3);
        due("36 the first item RIGHT", x.plan(1, 0, 0), 4);
        due("36 the last item BARE", x.plan(2, 7, 3), 5);
        due("36 the first item EVEN", x.plan(2, 0, 0), 6);
        due("36 the last's", x.plan(3, 0, 7), 7);
        due("36 the first's", x.plan(3, 7, 0), 8);
        due("36 one more", x.plan(0, 0, 0), -4);
        due("36 eight", x.count(4), 8);
        for (int other : new int[] {LEAST, -1, 0, 8, MOST}) {
            due("36 empty then, whatever " + other, x.plan(-1, other, other), 0);
            due("36 empty", x.count(4), 0);
            due("36 the first again", x.plan(0, 0, other), 1);
        }
        due("36 an empty one becomes empty", new CopyBench().plan(-1, 0, 0), 0);
        due("36 no candidates", new CopyBench().plan(0, 0, 0), -1);
    }

    private static CopyBench judged(int size, int... row) {
        CopyBench x = Benches.sheets(4, 1, "0ad-b");
        x.tape(5, 0, size);
        for (int i = 0; i < row.length; i++) {
            x.item(5, i, row[i]);
        }
        return x;
    }

    private static void promise38() {
        due("38 none is otherwise", judged(4, 0, 3, -1, 1).judge(0, 5, 0), -5);
        due("38 the row goes on", judged(5, 0, 3, -1, 1, 9).judge(0, 5, 0), -5);
        due("38 the last ones of the row", judged(5, 9, 0, 3, -1, 1).judge(0, 5, 1), -5);
        due("38 the first is otherwise", judged(4, 1, 3, -1, 1).judge(0, 5, 0), 0);
        due("38 the last is otherwise", judged(4, 0, 3, -1, 0).judge(0, 5, 0), 3);
        due("38 two are otherwise", judged(4, 0, 2, 0, 1).judge(0, 5, 0), 1);
        due("38 none told where none is due", judged(4, 0, 3, 255, 1).judge(0, 5, 0), -5);
        due("38 0 where none is due", judged(4, 0, 3, 0, 1).judge(0, 5, 0), 2);
        due("38 none where one is due", judged(4, -1, 3, -1, 1).judge(0, 5, 0), 0);
        due("38 4 is none", judged(4, 4, 3, -1, 1).judge(0, 5, 0), 0);
        for (int size = 0; size < 4; size++) {
            due("38 a row of " + size, judged(size, 0, 3, -1, 1).judge(0, 5, 0), 100 + size);
        }
        due("38 otherwise ahead of the end", judged(2, 0, 2).judge(0, 5, 0), 1);
        due("38 from the last place", judged(4, 9, 9, 9, 0).judge(0, 5, 3), 101);
        due("38 from the last place, otherwise", judged(4, 9, 9, 9, 1).judge(0, 5, 3), 0);
        CopyBench x = judged(4, 0, 3, -1, 1);
        for (int i : new int[] {-1, -4, 4, 5, 60, LEAST, MOST, MOST - 3}) {
            due("38 from place " + i, x.judge(0, 5, i), 100);
            due("38 nothing on the tape, place " + i, x.judge(0, 0, i), 100);
        }
        CopyBench y = Benches.sheets(8, 1, "0aaaaaaaa");
        y.tape(0, 0, 60);
        due("38 the last eight of sixty", y.judge(0, 0, 52), -5);
        due("38 the last seven of sixty", y.judge(0, 0, 53), 107);
        due("38 the last one of sixty", y.judge(0, 0, 59), 101);
        due("38 behind sixty", y.judge(0, 0, 60), 100);
        y.tape(0, -1, 0);
        due("38 nothing any more", y.judge(0, 0, 0), 100);
        y.tape(0, 4, 60);
        due("38 booleans are no bytes", y.judge(0, 0, 0), -12);
    }

    private static void promise39And40() {
        CopyBench x = new CopyBench();
        due("40 none yet", x.undo(), -3);
        due("39 of nobody", x.image(), 0);
        x.candidate();
        due("40 nobody", x.undo(), 0);
        due("40 nobody is there", x.count(1), 0);
        due("39 of all eight", Benches.full().image(), 8);
        imageKeeps(Benches::some, 3);
        imageKeeps(Benches::full, 8);
        imageRows();
        CopyBench z = Benches.with(2, 2);
        z.image();
        z.feed('0');
        z.tape(3, 0, 5);
        z.item(3, 4, 7);
        z.undo();
        due("40 the text stays as it is now", z.count(5), 1);
        due("40 a tape stays as it is now", z.peek(3, 4), 7);
        z.gives(1, 1, 1);
        z.image();
        z.gives(1, 1, 2);
        due("40 of the image taken last", z.undo(), 2);
        due("40 its answer", z.answer(1, 1), 1);
        z.gives(1, 1, 3);
        z.undo();
        due("40 the same again", z.answer(1, 1), 1);
    }

    /** What is seen and planned is kept row by row, as it was told. */
    private static void imageRows() {
        CopyBench x = Benches.sheets(4, 3, "0bbbb;1bbbb;2cccc");
        x.see(0, 1, true);
        x.see(1, 2, false);
        x.plan(3, 2, 0);
        x.plan(1, 0, 0);
        x.image();
        boolean[][] others = {{true, true}, {false, false}, {false, true}};
        for (boolean[] other : others) {
            x.see(-1, 0, true);
            x.see(0, 1, other[0]);
            x.see(1, 2, other[1]);
            due("40 other rows don't fit", x.fits(0), 0);
            x.undo();
            due("40 what was seen fits again", x.fits(0), 4);
        }
        int[][] seen = {{0, 2, 1, 2}, {0, 1, 0, 1}, {2, 1, 1, 2}};
        for (int[] row : seen) {
            x.see(-1, 0, true);
            x.see(row[0], row[1], true);
            x.see(row[2], row[3], false);
            due("40 others seen don't fit", x.fits(0), 0);
            x.undo();
            due("40 those seen fit again", x.fits(0), 4);
        }
        int[][] plans = {{0, 2, 0}, {3, 0, 2}, {3, 2, 1}, {2, 1, 1}};
        int[] ends = {1, 1, 3, 1};
        for (int i = 0; i < plans.length; i++) {
            x.plan(-1, 0, 0);
            x.plan(plans[i][0], plans[i][1], plans[i][2]);
            due("40 another plan ends so, " + i, x.ends(), ends[i]);
            x.undo();
            due("40 the plan ends as it did, " + i, x.ends(), 3);
            due("40 its rows, " + i, x.count(4), 2);
        }
    }

    /** Whatever changes is as it was then, and the image does not change by it. */
    private static void imageKeeps(Supplier<CopyBench> state, int candidates) {
        CopyBench first = state.get();
        first.image();
        List<Long> before = Benches.print(first);
        for (int change = 0; change < 13; change++) {
            CopyBench x = state.get();
            x.image();
            for (int time = 0; time < 2; time++) {
                change(x, change);
                due("40 undone: change " + change, x.undo(), candidates);
            }
            due("40 as it was: change " + change, Benches.print(x).equals(before) ? 1 : 0, 1);
        }
    }

    private static void change(CopyBench x, int change) {
        switch (change) {
            case 0 -> x.items(5);
            case 1 -> x.right(0, 3);
            case 2 -> x.model(0, 3);
            case 3 -> x.part(0, 1, 3);
            case 4 -> x.candidate();
            case 5 -> x.gives(0, 0, 3);
            case 6 -> x.seat(0, 5, 5);
            case 7 -> x.see(0, 1, false);
            case 8 -> x.see(-1, 0, false);
            case 9 -> x.plan(0, 1, 1);
            case 10 -> {
                x.plan(-1, 0, 0);
                x.plan(1, 0, 3);
                x.plan(2, 1, 1);
            }
            case 11 -> {
                x.see(-1, 0, false);
                x.see(1, 2, true);
                x.see(1, 0, false);
            }
            default -> {
                for (int what = 0; what < 6; what++) {
                    x.use(what, 1);
                }
            }
        }
    }

    private static void promise41() {
        CopyBench x = Benches.full();
        int[] due = {8, 8, 8, 5, 8, 60, 3, 3, 500, 9, 2, 4};
        for (int what = 0; what < 12; what++) {
            due("41 count " + what + " of a full one", x.count(what), due[what]);
        }
        x.seat(7, -1, 0);
        due("41 one without a seat", x.count(2), 7);
        x.seat(0, -1, 0);
        due("41 two without a seat", x.count(2), 6);
    }

    private static void promise42() {
        CopyBench x = new CopyBench();
        for (int tape : new int[] {0, 5}) {
            for (int sort = 0; sort < 5; sort++) {
                due("42 of none", x.tape(tape, sort, 0), 1);
                due("42 no place", x.item(tape, 0, 1), -13);
                due("42 of one", x.tape(tape, sort, 1), 1);
                due("42 a place", x.item(tape, 0, 1), 1);
                due("42 of sixty", x.tape(tape, sort, 60), 1);
                due("42 all 0, the first", x.peek(tape, 0), 0);
                due("42 all 0, the last", x.peek(tape, 59), 0);
                due("42 no more", x.peek(tape, 60), NO);
                x.item(tape, 59, 1);
                x.tape(tape, sort, 60);
                due("42 all 0 again", x.peek(tape, 59), 0);
            }
        }
        for (int n : new int[] {LEAST, -1, 0, 60, 61, MOST}) {
            x.tape(3, 3, 1);
            due("42 nothing, n " + n, x.tape(3, -1, n), 1);
            due("42 holds nothing", x.item(3, 0, 1), -11);
            due("42 nothing again, n " + n, x.tape(3, -1, n), 1);
        }
        due("42 the others stay", x.item(5, 59, 0), 1);
    }

    private static void bits(int sort, long v, long want) {
        CopyBench x = new CopyBench();
        x.tape(0, sort, 60);
        due("43 item becomes " + v, x.item(0, 59, v), 1);
        due("43 the lowest bits of " + v + " of sort " + sort, x.peek(0, 59), want);
        due("43 the next one stays", x.peek(0, 58), 0);
        due("43 the first becomes so, too", x.item(0, 0, v), 1);
        due("43 the first's lowest bits of " + v, x.peek(0, 0), want);
    }

    private static void promise43() {
        int[] widths = {8, 16, 32};
        for (int sort = 0; sort < 3; sort++) {
            long half = 1L << widths[sort] - 1;
            bits(sort, half - 1, half - 1);
            bits(sort, half, -half);
            bits(sort, 2 * half - 1, -1);
            bits(sort, 2 * half, 0);
            bits(sort, 2 * half + 5, 5);
            bits(sort, -half, -half);
            bits(sort, -half - 1, half - 1);
            bits(sort, -1, -1);
            bits(sort, Long.MAX_VALUE, -1);
            bits(sort, Long.MIN_VALUE, 0);
        }
        for (long v : new long[] {0, 1, -1, 1L << 32, Long.MAX_VALUE, Long.MIN_VALUE, Long.MIN_VALUE + 1}) {
            bits(3, v, v);
            bits(4, v, v == 0 ? 0 : 1);
        }
        bits(4, 2, 1);
        bits(4, 256, 1);
    }

    private static void promise44() {
        CopyBench x = new CopyBench();
        for (int tape = 0; tape < 6; tape++) {
            x.tape(tape, 3, 2);
            x.item(tape, 0, tape + 1);
            x.item(tape, 1, Long.MIN_VALUE + tape + 1);
        }
        for (int tape = 0; tape < 6; tape++) {
            due("44 the first item", x.peek(tape, 0), tape + 1);
            due("44 the last item", x.peek(tape, 1), Long.MIN_VALUE + tape + 1);
            due("44 none behind it", x.peek(tape, 2), NO);
        }
    }

    /** Rows of 1, 2, .. from the first item on. */
    private static CopyBench rows(int... sizes) {
        CopyBench x = new CopyBench();
        for (int tape = 0; tape < sizes.length; tape++) {
            x.tape(tape, 2, sizes[tape]);
            for (int i = 0; i < sizes[tape]; i++) {
                x.item(tape, i, 100 * tape + i + 1);
            }
        }
        return x;
    }

    private static void promise45() {
        for (int sort = 0; sort < 5; sort++) {
            CopyBench x = new CopyBench();
            x.tape(0, sort, 60);
            x.tape(5, sort, 60);
            x.item(0, 0, 1);
            x.item(0, 59, 1);
            due("45 all sixty of sort " + sort, x.shift(0, 0, 5, 0, 60), 60);
            due("45 the first", x.peek(5, 0), 1);
            due("45 the last", x.peek(5, 59), 1);
            due("45 none of sixty", x.shift(0, 60, 5, 60, 0), 0);
            due("45 one beyond sixty", x.shift(0, 60, 5, 0, 1), -13);
            due("45 sixty-one", x.shift(0, 0, 5, 0, 61), -13);
            due("45 n that wraps around", x.shift(0, 1, 5, 1, MOST), -13);
            due("45 i that wraps around", x.shift(0, MOST, 5, 0, 1), -13);
            due("45 j that wraps around", x.shift(0, 0, 5, MOST, 1), -13);
        }
        CopyBench y = rows(5, 2, 0, 0);
        due("45 the last two", y.shift(0, 3, 1, 0, 2), 2);
        due("45 are there", 100 * y.peek(1, 0) + y.peek(1, 1), 405);
        due("45 and still here", y.peek(0, 4), 5);
        due("45 three into two", y.shift(0, 2, 1, 0, 3), -13);
        due("45 two, one too far", y.shift(0, 3, 1, 1, 2), -13);
        due("45 two of one", y.shift(1, 1, 0, 0, 2), -13);
        due("45 none of none", y.shift(2, 0, 3, 0, 0), 0);
        due("45 one of none", y.shift(2, 0, 0, 0, 1), -13);
        due("45 one into none", y.shift(0, 0, 2, 0, 1), -13);
        due("45 none at both ends", y.shift(0, 5, 1, 2, 0), 0);
        due("45 nothing changed by these", 10 * y.peek(0, 0) + y.peek(1, 1), 15);
    }

    private static void promise45Sorts() {
        for (int sort = 0; sort < 5; sort++) {
            for (int other = 0; other < 5; other++) {
                CopyBench x = new CopyBench();
                x.tape(0, sort, 3);
                x.tape(1, other, 3);
                x.item(0, 2, 1);
                for (int n = 0; n < 4; n++) {
                    String told = "45 " + n + " of sort " + sort + " to sort " + other;
                    due(told, x.shift(0, 0, 1, 0, n), sort == other ? n : -12);
                    due(told + ", the last item", x.peek(1, 2), sort == other && n == 3 ? 1 : 0);
                }
            }
        }
    }

    private static void promise45Overlap() {
        for (int from = 0; from <= 3; from++) {
            for (int to = 0; to <= 3; to++) {
                CopyBench x = rows(6);
                due("45 from " + from + " to " + to, x.shift(0, from, 0, to, 3), 3);
                for (int i = 0; i < 6; i++) {
                    int was = i >= to && i < to + 3 ? from + i - to : i;
                    due("45 from " + from + " to " + to + ": item " + i, x.peek(0, i), was + 1);
                }
            }
        }
    }

    /** "All that follows is asked, and changes nothing": every asking call, with numbers that it takes. */
    private static void asked() {
        for (Supplier<CopyBench> state : List.<Supplier<CopyBench>>of(Benches::some, Benches::full)) {
            List<Long> before = Benches.print(state.get());
            for (int call = 0; call < 28; call++) {
                CopyBench x = state.get();
                ask(x, call);
                ask(x, call);
                due("0 asked, call " + call, Benches.print(x).equals(before) ? 1 : 0, 1);
            }
        }
    }

    private static long ask(CopyBench x, int call) {
        switch (call) {
            case 0: return x.answer(0, 0);
            case 1: return x.of(0, 1);
            case 2: return x.itemOf(0, 4);
            case 3: return x.taken(0, 0);
            case 4: return x.share(1, -1, 0, 1);
            case 5: return x.alike(0, 1);
            case 6: return x.odds(0, 1, 3, 0);
            case 7: return x.just(0, 1, 2, 1, 1);
            case 8: return x.source(0, 1);
            case 9: return x.without(0, 1, 0, 0);
            case 10: return x.key(0, 1);
            case 11: return x.pairs(1, 0) + x.pairs(2, 5);
            case 12: return x.pairs(4, 0);
            case 13: return x.pair(0, 0);
            case 14: return x.pairOdds(0, 0);
            case 15: return x.rank(0, 1);
            case 16: return x.linked(0);
            case 17: return x.chain(0);
            case 18: return x.group(0);
            case 19: return x.seated(9, 0);
            case 20: return x.drawn(1, 0, 1);
            case 21: return x.chance(1, 0, 1, 1, 0);
            case 22: return x.fits(1);
            case 23: return x.mean(0);
            case 24: return x.ends();
            case 25: return x.judge(0, 0, 0);
            case 26: return x.count(5);
            default: return x.peek(0, 0);
        }
    }
}
