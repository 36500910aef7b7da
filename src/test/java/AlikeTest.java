import java.lang.reflect.Method;

/**
 * Long runs of calls, by numbers: each answer is that of PlainBench. There are runs of calls of any numbers, and runs of
 * calls that are mostly taken, in which sheets stay alike, and each change stands between askings.
 */
public final class AlikeTest {
    private static final int RUNS = 120, CLOSE_RUNS = 400;
    private static final int CALLS = 512;
    // What is told behind ":" is by letters: see taken(char).
    private static final String CLOSE_ASKS = "pairs:0,0 pairs:1,0 pairs:1,0 pairs:2,r pairs:3,0 pairs:4,0 pair:k,0"
        + " pair:k,1 pair:k,2 pair:k,2 pairOdds:k,p pairOdds:k,p rank:c,c rank:c,c linked:c chain:c group:k group:0"
        + " seated:r,p seated:r,0 seated:r,1 fits:0 fits:1 mean:p ends ends ends share:i,g,c,c alike:c,c odds:c,c,a,p"
        + " odds:c,c,a,p just:c,c,a,h,p source:c,c source:c,c without:c,c,i,p key:c,c key:c,c drawn:z,c,c"
        + " chance:z,c,c,h,p answer:c,i of:c,a itemOf:i,4 itemOf:i,a taken:i,4 taken:i,a count:h";
    private static final String CLOSE_CHANGES = "right:i,a right:i,a model:i,a model:i,a part:i,a,v part:i,a,v candidate"
        + " seat:c,s,s seat:c,s,s seat:c,-1,s use:0,a use:1,a use:2,l use:2,l use:3,e use:3,e use:4,w use:5,v see:c,c,p"
        + " see:c,c,p see:-1,0,0 plan:0,c,0 plan:1,i,a plan:2,i,a plan:3,c,c plan:3,c,c plan:-1,0,0 image undo";
    private static final String SUSPECTS = "pairs:-1,5,-1,10 pair:-1,28,-1,3 pairOdds:-1,28,-1,2 rank:-1,8,-1,8"
        + " linked:-1,8 chain:-1,8 group:-1,6 seated:0,10,-1,2 fits:-1,2 mean:-1,2 ends";
    private static final String LIKENESS = "share:-1,8,-2,4,-1,8,-1,8 alike:-1,8,-1,8 odds:-1,8,-1,8,-1,4,-1,2"
        + " just:-1,8,-1,8,-1,4,-1,33,-1,2 source:-1,8,-1,8 without:-1,8,-1,8,-1,8,-1,2 key:-1,8,-1,8"
        + " drawn:-99,99,-1,8,-1,8 chance:-99,99,-1,8,-1,8,-1,9,-1,2";
    private static final String LOOKS = "answer:-1,8,-1,8 of:-1,8,-1,4 itemOf:-1,8,-1,5 taken:-1,8,-1,5"
        + " count:-1,12 judge:-1,8,-1,6,-2,14 peek:-1,6,-1,14";
    private static final String CHANGES = "right:-1,8,-1,4 model:-1,8,-1,4 part:-1,8,-1,4,0,4 candidate"
        + " gives:-1,8,-1,8,-2,4 seat:-1,8,-2,4,-1,4 use:-1,6,-1,5 use:2,2,0,501 use:2,2,1,20 use:3,3,0,3"
        + " use:0,0,0,3 use:1,1,0,3 see:-1,8,-1,8,0,1 plan:-1,4,-1,8,-1,8 image undo"
        + " tape:-1,6,-2,5,-2,14 tape:0,3,0,0,8,14 item:-1,6,-1,14,-2,5 item:0,5,0,12,-99999,99999"
        + " shift:-1,6,-2,14,-1,6,-2,14,-2,14 shift:0,5,0,4,0,5,0,4,0,8 feed:-1,128 read";
    private static final String TEXT = "0123456789abcd-;;efA";

    private final Due due = new Due("AlikeTest");
    private long state = 1;
    private int run = 0;
    private CopyBench bench = null;
    private PlainBench plain = null;
    private int calls = 0;
    private final int[] liked = new int[8];
    private int spread = 4;

    public static void main(String[] args) throws Exception {
        AlikeTest test = new AlikeTest();
        for (int run = 0; run < RUNS && test.due.wrong() < 20; run++) {
            test.oneRun(run);
        }
        for (int run = RUNS; run < RUNS + CLOSE_RUNS && test.due.wrong() < 20; run++) {
            test.closeRun(run);
        }
        test.due.end();
    }

    private int below(int k) {
        state = state * 6364136223846793005L + 1442695040888963407L;
        return (int) ((state >>> 33) % k);
    }

    private int between(int least, int most) {
        return least + below(most - least + 1);
    }

    private void start(int number, int seats) throws Exception {
        run = number;
        state = number * 7919L + 17;
        bench = new CopyBench();
        plain = new PlainBench();
        calls = 0;
        spread = seats;
        begin();
    }

    private void oneRun(int number) throws Exception {
        start(number, 4);
        while (calls < CALLS && due.wrong() < 20) {
            int kind = below(20);
            if (kind == 0) {
                tellSheets(below(3) > 0);
            } else if (kind == 1) {
                judgeTold();
            } else if (kind == 2 && below(12) == 0) {
                call("items", between(0, 9));
                begin();
            } else {
                oneOf(kind < 7 ? CHANGES : kind < 12 ? SUSPECTS : kind < 17 ? LIKENESS : LOOKS);
            }
        }
    }

    /** Sheets that are like a first one, so that some are suspect. */
    private void begin() throws Exception {
        int n = between(1, 8);
        call("items", n);
        int candidates = between(0, 8);
        for (int i = 0; i < 8; i++) {
            liked[i] = between(-1, 3);
        }
        for (int c = 0; c < candidates; c++) {
            call("candidate");
            for (int i = 0; i < n; i++) {
                call("gives", c, i, below(3) > 0 ? liked[i] : between(-1, 3));
            }
            if (below(4) > 0) {
                call("seat", c, below(spread), below(spread));
            }
        }
        for (int i = 0; i < n; i++) {
            call("model", i, between(0, 3));
            call("right", i, between(0, 3));
        }
    }

    /** A few askings, a change, a few askings. */
    private void closeRun(int number) throws Exception {
        start(number, 2 + number % 9);
        for (int what = 0; what < 6; what++) {
            call("use", what, taken("aalewv".charAt(what)));
        }
        while (calls < CALLS && due.wrong() < 20) {
            for (int asked = between(1, 3); asked > 0; asked--) {
                closeOneOf(CLOSE_ASKS);
            }
            int kind = below(16);
            if (kind == 0) {
                tellSheets(true);
            } else if (kind < 5) {
                int i = (int) taken('i');
                call("gives", taken('c'), i, below(3) > 0 ? liked[i] : taken('g'));
            } else if (kind == 5 && below(8) == 0) {
                begin();
            } else {
                closeOneOf(CLOSE_CHANGES);
            }
        }
    }

    private void closeOneOf(String some) throws Exception {
        String[] all = some.split(" ");
        String[] told = all[below(all.length)].split(":");
        String[] letters = told.length < 2 ? new String[0] : told[1].split(",");
        long[] numbers = new long[letters.length];
        for (int i = 0; i < numbers.length; i++) {
            char letter = letters[i].charAt(0);
            numbers[i] = letter < 'a' ? Long.parseLong(letters[i]) : taken(letter);
        }
        call(told[0], numbers);
    }

    /** A number that a call takes. */
    private long taken(char letter) {
        switch (letter) {
            case 'a': return below(4);
            case 'c': return below(Math.max(1, plain.count(1)));
            case 'e': return below(3) == 0 ? 0 : between(1, 9);
            case 'g': return between(-1, 3);
            case 'h': return below(below(2) == 0 ? 4 : 33);
            case 'i': return below(plain.count(0));
            case 'k': return below(below(2) == 0 ? 4 : 28);
            case 'l': return new int[] {1, 5, 20, 50, 100, 188, 250, 334, 500}[below(9)] - below(2) * below(2);
            case 'p': return below(2);
            case 'r': return between(1, below(2) == 0 ? 3 : 9);
            case 's': return below(spread);
            case 'v': return between(1, 3);
            case 'w': return below(3);
            default: return (int) state;
        }
    }

    private void tellSheets(boolean wellMade) throws Exception {
        int clauses = between(1, wellMade ? 4 : 5);
        StringBuilder text = new StringBuilder();
        for (int k = 0; k < clauses; k++) {
            text.append(k > 0 ? ";" : "").append((char) ('0' + below(8)));
            int letters = between(wellMade ? 1 : 0, Math.max(1, plain.count(0)));
            for (int i = 0; i < letters; i++) {
                text.append("abcd-".charAt(below(5)));
            }
        }
        if (!wellMade && text.length() > 0) {
            text.setCharAt(below(text.length()), TEXT.charAt(below(TEXT.length())));
        }
        for (int i = 0; i < text.length(); i++) {
            call("feed", text.charAt(i));
        }
        call("read");
    }

    /** A row of bytes that tells a candidate's answers, but for one at times. */
    private void judgeTold() throws Exception {
        int from = below(4);
        call("tape", 0, 0, between(0, 4) == 0 ? between(0, 12) : 12);
        for (int i = 0; i < 8; i++) {
            int is = plain.answer(0, i);
            call("item", 0, from + i, is < 0 ? -1 : is);
        }
        if (below(2) == 0) {
            call("item", 0, below(12), between(-1, 3));
        }
        call("judge", 0, 0, from);
    }

    private void oneOf(String some) throws Exception {
        String[] all = some.split(" ");
        String[] told = all[below(all.length)].split(":");
        String[] ends = told.length < 2 ? new String[0] : told[1].split(",");
        long[] numbers = new long[ends.length / 2];
        for (int i = 0; i < numbers.length; i++) {
            numbers[i] = between(Integer.parseInt(ends[2 * i]), Integer.parseInt(ends[2 * i + 1]));
            if (below(100) == 0) {
                numbers[i] = new int[] {Integer.MIN_VALUE, Integer.MAX_VALUE, -1, 64, 256, 60}[below(6)];
            }
        }
        call(told[0], numbers);
    }

    private void call(String name, long... numbers) throws Exception {
        if (calls >= CALLS) {
            return;
        }
        calls++;
        StringBuilder told = new StringBuilder("run " + run + ", call " + calls + ": " + name);
        for (long number : numbers) {
            told.append(' ').append(number);
        }
        due.is(told.toString(), answer(CopyBench.class, bench, name, numbers),
            answer(PlainBench.class, plain, name, numbers));
    }

    private static long answer(Class<?> kind, Object bench, String name, long[] numbers) throws Exception {
        for (Method method : kind.getDeclaredMethods()) {
            Class<?>[] types = method.getParameterTypes();
            boolean open = java.lang.reflect.Modifier.isPublic(method.getModifiers());
            if (open && method.getName().equals(name) && types.length == numbers.length) {
                return ((Number) method.invoke(bench, fitted(types, numbers))).longValue();
            }
        }
        throw new IllegalStateException("no such call: " + name);
    }

    private static Object[] fitted(Class<?>[] types, long[] numbers) {
        Object[] all = new Object[types.length];
        for (int i = 0; i < types.length; i++) {
            if (types[i] == boolean.class) {
                all[i] = numbers[i] != 0;
            } else if (types[i] == long.class) {
                all[i] = numbers[i];
            } else {
                all[i] = (int) numbers[i];
            }
        }
        return all;
    }
}
