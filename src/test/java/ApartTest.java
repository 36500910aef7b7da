import java.util.ArrayList;
import java.util.LinkedHashMap;
import java.util.List;
import java.util.Map;
import java.util.function.Consumer;
import java.util.function.Supplier;

/** What does not matter to a call: its answers stay, whatever else changes. */
public final class ApartTest {
    private static final Due DUE = new Due("ApartTest");
    private static final int[][] TWO = {{0, 1}, {1, 0}, {2, 1}};
    private static final String NO_SHEETS = "see plan feed tape image";

    /** Asks an object for answers. */
    private interface Asker {
        void ask(CopyBench x, List<Long> answers);
    }

    private final Map<String, List<Consumer<CopyBench>>> changes = new LinkedHashMap<>();
    private final List<Supplier<CopyBench>> states =
        List.of(Benches::some, Benches::crowd, Benches::full, Benches::nearOnes, ApartTest::family);

    public static void main(String[] args) {
        ApartTest test = new ApartTest();
        test.tellChanges();
        test.sheets();
        test.likeness();
        test.pairs();
        test.drawsAndPlans();
        DUE.end();
    }

    /** Of nearOnes() those near by any reach, held to be suspect by the family. */
    private static CopyBench family() {
        CopyBench x = Benches.nearOnes();
        x.use(0, 3);
        x.use(1, 1);
        x.use(2, 500);
        x.use(3, 0);
        return x;
    }

    private void change(String name, Consumer<CopyBench> act) {
        changes.computeIfAbsent(name, none -> new ArrayList<>()).add(act);
    }

    private void tellChanges() {
        for (int number = 0; number < 4; number++) {
            int v = number;
            change("right", x -> x.right(0, v));
            change("right", x -> x.right(1, v));
            change("model", x -> x.model(0, v));
            change("model", x -> x.model(1, v));
            change("part", x -> x.part(0, v, 3));
            change("gives", x -> x.gives(0, 0, v));
            change("gives", x -> x.gives(1, 1, v));
            change("see", x -> x.see(0, 1, v < 2));
            change("plan", x -> x.plan(v, 0, 1));
            change("feed", x -> x.feed("0a;d".charAt(v)));
            change("use0", x -> x.use(0, v));
            change("use1", x -> x.use(1, v));
            change("use5", x -> x.use(5, v + 1));
            change("use4", x -> x.use(4, v % 3));
            change("seat", x -> x.seat(v % 3, 4 + v, 5));
            change("seat", x -> x.seat(v % 3, -1, 0));
            change("tape", x -> x.tape(v, v, 7));
            change("tape", x -> x.item(v, 0, 3));
        }
        for (int level : new int[] {1, 40, 188, 250, 500}) {
            change("use2", x -> x.use(2, level));
        }
        for (int reach : new int[] {0, 1, 2, 9}) {
            change("use3", x -> x.use(3, reach));
        }
        change("see", x -> x.see(-1, 0, false));
        change("plan", x -> x.plan(-1, 0, 0));
        change("feed", x -> {
            x.feed('9');
            x.read();
        });
        change("tape", x -> x.tape(0, -1, 0));
        change("tape", x -> x.shift(0, 0, 0, 1, 1));
        change("image", CopyBench::image);
        change("candidate", CopyBench::candidate);
    }

    private static List<Long> answers(CopyBench x, Asker asker) {
        List<Long> all = new ArrayList<>();
        asker.ask(x, all);
        return all;
    }

    /** What is asked answers the same ahead of a change, behind it, and by an object that was not asked before it. */
    private void stays(String asked, String untouched, Asker asker) {
        for (int state = 0; state < states.size(); state++) {
            List<Long> before = answers(states.get(state).get(), asker);
            for (Map.Entry<String, List<Consumer<CopyBench>>> some : changes.entrySet()) {
                if (!List.of(untouched.trim().split(" +")).contains(some.getKey())) {
                    continue;
                }
                for (int i = 0; i < some.getValue().size(); i++) {
                    CopyBench x = states.get(state).get();
                    answers(x, asker);
                    some.getValue().get(i).accept(x);
                    CopyBench y = states.get(state).get();
                    some.getValue().get(i).accept(y);
                    String told = asked + ", behind " + some.getKey() + ", " + i + ", state " + state;
                    DUE.holds(told, answers(x, asker).equals(before));
                    DUE.holds(told + ", not asked before", answers(y, asker).equals(before));
                }
            }
        }
    }

    private void sheets() {
        String use = " use0 use1 use2 use3 use4 use5 ";
        stays("12 answer", "right model part seat candidate" + use + NO_SHEETS, (x, all) -> {
            for (int c = 0; c < 3; c++) {
                all.add((long) x.answer(c, 0));
                all.add((long) x.answer(c, 1));
            }
        });
        stays("13 of, answers", "model part seat candidate" + use + NO_SHEETS, (x, all) -> {
            for (int c = 0; c < 3; c++) {
                all.add((long) x.of(c, 0));
                all.add((long) x.of(c, 1));
            }
        });
        stays("13 of, the seat", "right model part gives candidate" + use + NO_SHEETS, (x, all) -> {
            for (int c = 0; c < 3; c++) {
                all.add((long) x.of(c, 2));
                all.add((long) x.of(c, 3));
            }
        });
        stays("14 itemOf", "part seat candidate" + use + NO_SHEETS, (x, all) -> {
            for (int what = 0; what < 5; what++) {
                all.add((long) x.itemOf(0, what));
                all.add((long) x.itemOf(1, what));
            }
        });
        stays("15 taken", "right part gives seat candidate" + use + NO_SHEETS, (x, all) -> {
            for (int k = 0; k < 5; k++) {
                all.add((long) x.taken(0, k));
                all.add((long) x.taken(1, k));
            }
        });
        stays("38 judge", "right model part seat candidate see plan feed image" + use, (x, all) -> {
            for (int c = 0; c < 3; c++) {
                all.add((long) x.judge(c, 0, 0));
                all.add((long) x.judge(c, 0, 2));
            }
        });
        stays("44 peek", "right model part gives seat candidate see plan feed image" + use, (x, all) -> {
            for (int tape = 0; tape < 6; tape++) {
                all.add(x.peek(tape, 1));
            }
        });
    }

    private void likeness() {
        String use = " use0 use1 use2 use3 ";
        stays("16 share", "right seat candidate use4 use5" + use + NO_SHEETS, (x, all) -> {
            for (int[] two : TWO) {
                for (int answer = -1; answer < 4; answer++) {
                    all.add((long) x.share(0, answer, two[0], two[1]));
                    all.add((long) x.share(1, answer, two[0], two[1]));
                }
            }
        });
        stays("17 alike", "model part seat candidate" + use + NO_SHEETS, (x, all) -> {
            for (int[] two : TWO) {
                all.add((long) x.alike(two[0], two[1]));
            }
        });
        for (int number = 0; number < 4; number++) {
            int by = number;
            stays("18, 19 by " + by, "seat candidate" + use + NO_SHEETS, (x, all) -> {
                for (int[] two : TWO) {
                    all.add(x.odds(two[0], two[1], by, 0));
                    all.add(x.odds(two[0], two[1], by, 1));
                    all.add(x.just(two[0], two[1], by, 0, 0));
                    all.add(x.just(two[0], two[1], by, 2, 1));
                }
            });
        }
        stays("20 to 22", "seat candidate" + use + NO_SHEETS, (x, all) -> {
            for (int[] two : TWO) {
                all.add((long) x.source(two[0], two[1]));
                all.add(x.without(two[0], two[1], 0, 0));
                all.add(x.without(two[0], two[1], 1, 1));
                all.add((long) x.key(two[0], two[1]));
            }
        });
    }

    private void pairs() {
        stays("23 how many PAIRS", "right model part gives use0 use1 use2 use4 use5 " + NO_SHEETS,
            (x, all) -> all.add((long) x.pairs(0, 0)));
        stays("23 NEAR", "right model part gives candidate use0 use1 use2 use3 use4 use5 " + NO_SHEETS,
            (x, all) -> {
                for (int r = 0; r < 10; r++) {
                    all.add((long) x.pairs(2, r));
                }
            });
        stays("24 to 26 the ORDER", "use1 use2 " + NO_SHEETS, (x, all) -> {
            for (int k = 0; k < 28; k++) {
                all.add((long) x.pair(k, 0));
                all.add((long) x.pair(k, 1));
                all.add(x.pairOdds(k, k % 2));
            }
            all.add((long) x.rank(2, 0));
        });
        stays("23 to 30 SUSPECT", NO_SHEETS, (x, all) -> {
            for (int what = 0; what < 5; what++) {
                all.add((long) x.pairs(what, 1));
            }
            for (int k = 0; k < 3; k++) {
                all.add((long) x.pair(k, 2));
                all.add((long) x.linked(k));
                all.add((long) x.chain(k));
                all.add((long) x.group(k));
                all.add(x.seated(k + 1, 0));
                all.add(x.seated(k + 1, 1));
            }
        });
    }

    private void drawsAndPlans() {
        stays("31, 32", "seat candidate use0 use1 use2 use3 " + NO_SHEETS, (x, all) -> {
            for (int[] two : TWO) {
                for (int seed = -2; seed < 9; seed++) {
                    all.add((long) x.drawn(seed, two[0], two[1]));
                    all.add(x.chance(seed, two[0], two[1], 2, 0));
                }
            }
        });
        stays("34 fits", "use0 plan feed tape image", (x, all) -> {
            all.add((long) x.fits(0));
            all.add((long) x.fits(1));
        });
        stays("35 mean", "model part use0 use1 use2 " + NO_SHEETS, (x, all) -> {
            all.add(x.mean(0));
            all.add(x.mean(1));
        });
        stays("37 ends", "see feed tape image", (x, all) -> all.add((long) x.ends()));
    }
}
