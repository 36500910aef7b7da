/** A bench for copied answers: which sheets are so alike that chance hardly makes them so. */
public final class CopyBench {
    public static final int NONE = -1, BAD = -2, STATE = -3, FULL = -4;
    public static final long NO = Long.MIN_VALUE;

    private static final int NEITHER = -5, FAULT = -10;
    private static final int NOTHING = -11, CAST = -12, PLACE = -13, SIZE = -14, SHORT_OF = 100;
    private static final int MOST_ITEMS = 8, ANSWERS = 4, MOST_CANDIDATES = 8, MOST_PAIRS = 28;
    private static final int MOST_SEEN = 5, MOST_PLAN = 8, PLACES = 10;
    // As the item that is left out: none is.
    private static final int NO_ITEM = -1;
    private static final int EVEN = 0, TOLD = 1, LEARNT = 2, BARE = 3;
    private static final int FREE = 0, GIVEN = 1, SOURCE = 2, BOUND = 3, SUPPOSITIONS = 4;
    private static final int EACH = 0, FAMILY = 1, STEPS = 2, MISTAKES = 3;
    private static final int SUPPOSITION = 0, RULE = 1, LEVEL = 2, REACH = 3, WORTH_RIGHT = 4, WORTH_WRONG = 5, USES = 6;
    private static final int MOST_LIKENESS = 32;
    private static final int SEEDS = 6;
    private static final int TAPES = 6;

    private final Exam now = new Exam();
    private final Exam kept = new Exam();
    private final Exam trial = new Exam();
    private boolean imageTaken = false;
    private final Text text = new Text();
    private final Tape[] tapes = new Tape[TAPES];
    private final Odds odds = new Odds();
    private final Ratio first = new Ratio();
    private final Ratio second = new Ratio();
    private final Ranking ranking = new Ranking();
    private final Links links = new Links();
    private final Seating seating = new Seating();
    private final Draws draws = new Draws();

    public CopyBench() {
        for (int i = 0; i < TAPES; i++) {
            tapes[i] = new Tape();
        }
    }

    // ---- items, candidates

    public int items(int n) {
        if (n < 1 || n > MOST_ITEMS) {
            return BAD;
        }
        int before = now.items;
        now.begin(n);
        return before;
    }

    public int right(int item, int answer) {
        if (!now.hasItem(item)) {
            return NONE;
        }
        if (!isAnswer(answer)) {
            return BAD;
        }
        int before = now.key[item];
        now.key[item] = answer;
        return before;
    }

    public int model(int item, int kind) {
        if (!now.hasItem(item)) {
            return NONE;
        }
        if (!isKind(kind)) {
            return BAD;
        }
        int before = now.kind[item];
        now.kind[item] = kind;
        return before;
    }

    public int part(int item, int answer, int v) {
        if (!now.hasItem(item) || !isAnswer(answer)) {
            return NONE;
        }
        if (v < 1 || v > 3) {
            return BAD;
        }
        int before = now.parts[item][answer];
        now.parts[item][answer] = v;
        return before;
    }

    public int candidate() {
        return now.come < MOST_CANDIDATES ? now.comes() : FULL;
    }

    public int gives(int candidate, int item, int answer) {
        if (!now.hasCandidate(candidate) || !now.hasItem(item)) {
            return NONE;
        }
        if (answer != -1 && !isAnswer(answer)) {
            return BAD;
        }
        int before = now.given[candidate][item];
        now.given[candidate][item] = answer;
        return orNeither(before);
    }

    public int seat(int candidate, int row, int place) {
        if (!now.hasCandidate(candidate)) {
            return NONE;
        }
        if (row == -1) {
            now.sits(candidate, -1, -1);
            return 1;
        }
        if (row < 0 || row >= PLACES || place < 0 || place >= PLACES) {
            return BAD;
        }
        int sitter = now.whoSits(row, place);
        if (sitter >= 0 && sitter != candidate) {
            return STATE;
        }
        now.sits(candidate, row, place);
        return 1;
    }

    public int feed(int sign) {
        if (sign < 0 || sign > 127) {
            return BAD;
        }
        return text.isFull() ? FULL : text.append(sign);
    }

    public int read() {
        int clauses = text.examine(now);
        if (clauses > 0) {
            text.tell(now);
        }
        text.empty();
        return clauses;
    }

    public int use(int what, int v) {
        if (what < 0 || what >= USES) {
            return NONE;
        }
        if (v < leastUse(what) || v > mostUse(what)) {
            return BAD;
        }
        int before = now.used[what];
        now.used[what] = v;
        return before;
    }

    // ---- what there is

    public int answer(int candidate, int item) {
        if (!now.hasCandidate(candidate) || !now.hasItem(item)) {
            return NONE;
        }
        return orNeither(now.given[candidate][item]);
    }

    public int of(int candidate, int what) {
        if (!now.hasCandidate(candidate)) {
            return NONE;
        }
        switch (what) {
            case 0:
                return now.answersOf(candidate);
            case 1:
                return now.rightOnesOf(candidate);
            case 2:
                return orNeither(now.row[candidate]);
            case 3:
                return orNeither(now.place[candidate]);
            default:
                return NONE;
        }
    }

    public int itemOf(int item, int what) {
        if (!now.hasItem(item)) {
            return NONE;
        }
        switch (what) {
            case 0:
                return now.key[item];
            case 1:
                return now.kind[item];
            case 2:
                return now.answersTo(item);
            case 3:
                return now.answersTo(item) - now.howMany(item, now.key[item]);
            case 4:
                return now.favouriteMistake(item);
            default:
                return NONE;
        }
    }

    public int taken(int item, int k) {
        if (!now.hasItem(item)) {
            return NONE;
        }
        if (k < 0 || k > 4) {
            return BAD;
        }
        int kind = now.kind[item];
        return isOfSort(kind, k) ? kind : CAST;
    }

    public int share(int item, int answer, int x, int y) {
        if (!now.hasItem(item) || !now.hasTwo(x, y)) {
            return NONE;
        }
        if (answer != -1 && !isAnswer(answer)) {
            return BAD;
        }
        odds.takeShares(now, item, x, y);
        return answer == -1 ? odds.sum : odds.shares[answer];
    }

    // ---- likeness, odds

    public int alike(int x, int y) {
        return now.hasTwo(x, y) ? now.likeness(x, y) : NONE;
    }

    public long odds(int x, int y, int by, int part) {
        if (!now.hasTwo(x, y) || !isSupposition(by) || !isPart(part)) {
            return NO;
        }
        odds.spread(now, x, y, by, NO_ITEM);
        odds.asGreat(first);
        return first.half(part);
    }

    public long just(int x, int y, int by, int k, int part) {
        if (!now.hasTwo(x, y) || !isSupposition(by) || k < 0 || k > MOST_LIKENESS || !isPart(part)) {
            return NO;
        }
        odds.spread(now, x, y, by, NO_ITEM);
        odds.exactly(k, first);
        return first.half(part);
    }

    public int source(int x, int y) {
        if (!now.hasTwo(x, y)) {
            return NONE;
        }
        odds.spread(now, x, y, SOURCE, NO_ITEM);
        odds.asGreat(first);
        odds.spread(now, y, x, SOURCE, NO_ITEM);
        odds.asGreat(second);
        int order = first.against(second);
        if (order == 0) {
            return NEITHER;
        }
        return order < 0 ? x : y;
    }

    public long without(int x, int y, int item, int part) {
        if (!now.hasTwo(x, y) || !now.hasItem(item) || !isPart(part)) {
            return NO;
        }
        odds.spread(now, x, y, FREE, item);
        odds.asGreat(first);
        return first.half(part);
    }

    public int key(int x, int y) {
        if (!now.hasTwo(x, y)) {
            return NONE;
        }
        int best = 0;
        odds.spread(now, x, y, FREE, best);
        odds.asGreat(first);
        for (int item = 1; item < now.items; item++) {
            odds.spread(now, x, y, FREE, item);
            odds.asGreat(second);
            if (second.against(first) > 0) {
                best = item;
                first.copy(second);
            }
        }
        return best;
    }

    // ---- pairs, groups

    public int pairs(int what, int r) {
        switch (what) {
            case 0:
                return now.pairsInReach();
            case 1:
                rankNow();
                return ranking.suspects;
            case 2:
                return r < 0 || r >= PLACES ? BAD : now.nearOnes(r);
            case 3:
                linkNow();
                return links.groups();
            case 4:
                linkNow();
                return links.greatest();
            default:
                return NONE;
        }
    }

    public int pair(int k, int what) {
        if (what < 0 || what > 2) {
            return NONE;
        }
        rankNow();
        if (!ranking.has(k)) {
            return BAD;
        }
        if (what == 2) {
            return k < ranking.suspects ? 1 : 0;
        }
        return what == 0 ? ranking.lower[k] : ranking.upper[k];
    }

    public long pairOdds(int k, int part) {
        if (!isPart(part)) {
            return NO;
        }
        rankNow();
        if (!ranking.has(k)) {
            return NO;
        }
        return part == 0 ? ranking.above[k] : ranking.below[k];
    }

    public int rank(int x, int y) {
        if (!now.hasTwo(x, y)) {
            return NONE;
        }
        rankNow();
        return orNeither(ranking.placeOf(x, y));
    }

    public int linked(int candidate) {
        if (!now.hasCandidate(candidate)) {
            return NONE;
        }
        linkNow();
        return links.suspectWith[candidate];
    }

    public int chain(int candidate) {
        if (!now.hasCandidate(candidate)) {
            return NONE;
        }
        linkNow();
        return links.reachedFrom(candidate);
    }

    public int group(int k) {
        if (k < 0) {
            return BAD;
        }
        linkNow();
        return orNeither(links.groupAt(k));
    }

    public long seated(int r, int part) {
        if (r < 1 || r >= PLACES || !isPart(part)) {
            return NO;
        }
        linkNow();
        seating.ways(now, links, r, first);
        return first.half(part);
    }

    // ---- draws, seen, plans

    public int drawn(int seed, int x, int y) {
        return now.hasTwo(x, y) ? draws.likeness(now, odds, seed, x, y) : NONE;
    }

    public long chance(int seed, int x, int y, int k, int part) {
        if (!now.hasTwo(x, y) || k < 0 || !isPart(part)) {
            return NO;
        }
        int reached = 0;
        for (int i = 0; i < SEEDS; i++) {
            if (draws.likeness(now, odds, seed + i, x, y) >= k) {
                reached++;
            }
        }
        first.put(reached, SEEDS);
        return first.half(part);
    }

    public int see(int x, int y, boolean is) {
        if (x == -1) {
            now.seen = 0;
            return 0;
        }
        if (!now.hasTwo(x, y)) {
            return NONE;
        }
        return now.seen < MOST_SEEN ? now.sees(x, y, is) : FULL;
    }

    public int fits(int what) {
        if (what != 0 && what != 1) {
            return NONE;
        }
        int fitting = 0;
        int least = NEITHER;
        for (int by = SUPPOSITIONS - 1; by >= 0; by--) {
            ranking.order(now, odds, by);
            if (ranking.agrees(now)) {
                fitting++;
                least = by;
            }
        }
        return what == 0 ? fitting : least;
    }

    public long mean(int part) {
        int pairs = now.pairsInReach();
        if (pairs == 0 || !isPart(part)) {
            return NO;
        }
        first.put(now.likenessInReach(), pairs);
        return first.half(part);
    }

    public int plan(int what, int k, int v) {
        if (what == -1) {
            now.planned = 0;
            return 0;
        }
        if (!now.canPlan(what, k, v)) {
            return NONE;
        }
        if (what == 1 && !isAnswer(v) || what == 2 && !isKind(v)) {
            return BAD;
        }
        return now.planned < MOST_PLAN ? now.plans(what, k, v) : FULL;
    }

    public int ends() {
        trial.copy(now);
        trial.followPlan();
        ranking.order(trial, odds, trial.used[SUPPOSITION]);
        return ranking.suspects;
    }

    // ---- judging, the image, tapes

    public int judge(int candidate, int tape, int i) {
        if (!now.hasCandidate(candidate) || !isTape(tape)) {
            return NONE;
        }
        Tape told = tapes[tape];
        if (!told.holdsNothing() && told.sort != Tape.BYTES) {
            return CAST;
        }
        for (int item = 0; item < now.items; item++) {
            if (!told.hasPlaceBehind(i, item)) {
                return SHORT_OF + item;
            }
            if (told.row[i + item] != now.given[candidate][item]) {
                return item;
            }
        }
        return NEITHER;
    }

    public int image() {
        kept.copy(now);
        imageTaken = true;
        return kept.come;
    }

    public int undo() {
        if (!imageTaken) {
            return STATE;
        }
        now.copy(kept);
        return now.come;
    }

    public int count(int what) {
        switch (what) {
            case 0:
                return now.items;
            case 1:
                return now.come;
            case 2:
                return now.seatedOnes();
            case 3:
                return now.seen;
            case 4:
                return now.planned;
            case 5:
                return text.size;
            default:
                return what >= 6 && what < 6 + USES ? now.used[what - 6] : BAD;
        }
    }

    public int tape(int tape, int sort, int n) {
        if (!isTape(tape)) {
            return NONE;
        }
        if (sort == Tape.NO_SORT) {
            tapes[tape].begin(Tape.NO_SORT, 0);
            return 1;
        }
        if (sort < Tape.BYTES || sort > Tape.BOOLEANS || n > Tape.LONGEST) {
            return BAD;
        }
        if (n < 0) {
            return SIZE;
        }
        tapes[tape].begin(sort, n);
        return 1;
    }

    public int item(int tape, int i, long v) {
        if (!isTape(tape)) {
            return NONE;
        }
        Tape told = tapes[tape];
        if (told.holdsNothing()) {
            return NOTHING;
        }
        if (!told.hasPlace(i)) {
            return PLACE;
        }
        told.row[i] = told.fitted(v);
        return 1;
    }

    public long peek(int tape, int i) {
        if (!isTape(tape) || !tapes[tape].hasPlace(i)) {
            return NO;
        }
        return tapes[tape].row[i];
    }

    public int shift(int tape, int i, int other, int j, int n) {
        if (!isTape(tape) || !isTape(other)) {
            return NONE;
        }
        Tape from = tapes[tape];
        Tape to = tapes[other];
        if (from.holdsNothing() || to.holdsNothing()) {
            return NOTHING;
        }
        if (from.sort != to.sort) {
            return CAST;
        }
        if (!from.hasStretch(i, n) || !to.hasStretch(j, n)) {
            return PLACE;
        }
        System.arraycopy(from.row, i, to.row, j, n);
        return n;
    }

    // ---- what the calls share

    private void rankNow() {
        ranking.order(now, odds, now.used[SUPPOSITION]);
    }

    private void linkNow() {
        ranking.order(now, odds, now.used[SUPPOSITION]);
        links.take(ranking);
    }

    private static int orNeither(int number) {
        return number < 0 ? NEITHER : number;
    }

    private static boolean isAnswer(int answer) {
        return answer >= 0 && answer < ANSWERS;
    }

    private static boolean isKind(int kind) {
        return kind >= EVEN && kind <= BARE;
    }

    private static boolean isSupposition(int by) {
        return by >= 0 && by < SUPPOSITIONS;
    }

    private static boolean isPart(int part) {
        return part == 0 || part == 1;
    }

    private static boolean isTape(int tape) {
        return tape >= 0 && tape < TAPES;
    }

    private static boolean isOfSort(int kind, int sort) {
        switch (sort) {
            case 0:
                return true;
            case 1:
                return kind == EVEN || kind == TOLD;
            case 2:
                return kind == TOLD;
            case 3:
                return kind == LEARNT || kind == BARE;
            default:
                return kind == BARE;
        }
    }

    private static int leastUse(int what) {
        return what == LEVEL || what == WORTH_WRONG ? 1 : 0;
    }

    private static int mostUse(int what) {
        switch (what) {
            case SUPPOSITION:
            case RULE:
                return 3;
            case LEVEL:
                return 500;
            case REACH:
                return PLACES - 1;
            case WORTH_RIGHT:
                return 2;
            default:
                return 4;
        }
    }

    /** All that an image keeps: items, candidates, what is in use, what is seen, the plan. */
    private static final class Exam {
        int items = 0;
        int come = 0;
        int seen = 0;
        int planned = 0;
        final int[] key = new int[MOST_ITEMS];
        final int[] kind = new int[MOST_ITEMS];
        final int[][] parts = new int[MOST_ITEMS][ANSWERS];
        final int[][] given = new int[MOST_CANDIDATES][MOST_ITEMS];
        final int[] row = new int[MOST_CANDIDATES];
        final int[] place = new int[MOST_CANDIDATES];
        final int[] used = new int[USES];
        final int[] seenX = new int[MOST_SEEN];
        final int[] seenY = new int[MOST_SEEN];
        final boolean[] seenIs = new boolean[MOST_SEEN];
        final int[] planWhat = new int[MOST_PLAN];
        final int[] planK = new int[MOST_PLAN];
        final int[] planV = new int[MOST_PLAN];

        Exam() {
            used[LEVEL] = 50;
            used[WORTH_WRONG] = 1;
            begin(4);
        }

        /** What is in use stays, so that items() may call this. */
        void begin(int n) {
            items = n;
            come = 0;
            seen = 0;
            planned = 0;
            for (int item = 0; item < MOST_ITEMS; item++) {
                key[item] = 0;
                kind[item] = EVEN;
                for (int answer = 0; answer < ANSWERS; answer++) {
                    parts[item][answer] = 1;
                }
            }
            for (int c = 0; c < MOST_CANDIDATES; c++) {
                leaveBlank(c);
                sits(c, -1, -1);
            }
        }

        void copy(Exam other) {
            items = other.items;
            come = other.come;
            seen = other.seen;
            planned = other.planned;
            System.arraycopy(other.key, 0, key, 0, MOST_ITEMS);
            System.arraycopy(other.kind, 0, kind, 0, MOST_ITEMS);
            for (int item = 0; item < MOST_ITEMS; item++) {
                System.arraycopy(other.parts[item], 0, parts[item], 0, ANSWERS);
            }
            for (int c = 0; c < MOST_CANDIDATES; c++) {
                System.arraycopy(other.given[c], 0, given[c], 0, MOST_ITEMS);
            }
            System.arraycopy(other.row, 0, row, 0, MOST_CANDIDATES);
            System.arraycopy(other.place, 0, place, 0, MOST_CANDIDATES);
            System.arraycopy(other.used, 0, used, 0, USES);
            System.arraycopy(other.seenX, 0, seenX, 0, MOST_SEEN);
            System.arraycopy(other.seenY, 0, seenY, 0, MOST_SEEN);
            System.arraycopy(other.seenIs, 0, seenIs, 0, MOST_SEEN);
            System.arraycopy(other.planWhat, 0, planWhat, 0, MOST_PLAN);
            System.arraycopy(other.planK, 0, planK, 0, MOST_PLAN);
            System.arraycopy(other.planV, 0, planV, 0, MOST_PLAN);
        }

        boolean hasItem(int item) {
            return item >= 0 && item < items;
        }

        boolean hasCandidate(int c) {
            return c >= 0 && c < come;
        }

        boolean hasTwo(int x, int y) {
            return hasCandidate(x) && hasCandidate(y) && x != y;
        }

        int comes() {
            come++;
            return come - 1;
        }

        void leaveBlank(int c) {
            for (int item = 0; item < MOST_ITEMS; item++) {
                given[c][item] = -1;
            }
        }

        void sits(int c, int inRow, int atPlace) {
            row[c] = inRow;
            place[c] = atPlace;
        }

        boolean hasSeat(int c) {
            return row[c] >= 0;
        }

        int whoSits(int inRow, int atPlace) {
            for (int c = 0; c < come; c++) {
                if (row[c] == inRow && place[c] == atPlace) {
                    return c;
                }
            }
            return -1;
        }

        int seatedOnes() {
            int found = 0;
            for (int c = 0; c < come; c++) {
                if (hasSeat(c)) {
                    found++;
                }
            }
            return found;
        }

        int answersOf(int c) {
            int found = 0;
            for (int item = 0; item < items; item++) {
                if (given[c][item] >= 0) {
                    found++;
                }
            }
            return found;
        }

        int rightOnesOf(int c) {
            int found = 0;
            for (int item = 0; item < items; item++) {
                if (given[c][item] == key[item]) {
                    found++;
                }
            }
            return found;
        }

        int howMany(int item, int answer) {
            int found = 0;
            for (int c = 0; c < come; c++) {
                if (given[c][item] == answer) {
                    found++;
                }
            }
            return found;
        }

        int answersTo(int item) {
            return come - howMany(item, -1);
        }

        int favouriteMistake(int item) {
            int best = -1;
            int most = -1;
            for (int answer = 0; answer < ANSWERS; answer++) {
                int found = howMany(item, answer);
                if (answer != key[item] && found > most) {
                    best = answer;
                    most = found;
                }
            }
            return best;
        }

        boolean bothGave(int item, int x, int y) {
            return given[x][item] >= 0 && given[y][item] >= 0;
        }

        /** What an answer counts for when two gave it. */
        int worth(int item, int answer) {
            return answer == key[item] ? used[WORTH_RIGHT] : used[WORTH_WRONG];
        }

        int likenessAt(int item, int x, int y) {
            int answer = given[x][item];
            return answer >= 0 && answer == given[y][item] ? worth(item, answer) : 0;
        }

        int likeness(int x, int y) {
            int found = 0;
            for (int item = 0; item < items; item++) {
                found += likenessAt(item, x, y);
            }
            return found;
        }

        boolean near(int x, int y, int r) {
            return hasSeat(x) && hasSeat(y) && Math.abs(row[x] - row[y]) <= r && Math.abs(place[x] - place[y]) <= r;
        }

        int nearOnes(int r) {
            int found = 0;
            for (int x = 0; x < come; x++) {
                for (int y = x + 1; y < come; y++) {
                    if (near(x, y, r)) {
                        found++;
                    }
                }
            }
            return found;
        }

        boolean inReach(int x, int y) {
            return used[REACH] == 0 || near(x, y, used[REACH]);
        }

        int pairsInReach() {
            return used[REACH] == 0 ? come * (come - 1) / 2 : nearOnes(used[REACH]);
        }

        int likenessInReach() {
            int found = 0;
            for (int x = 0; x < come; x++) {
                for (int y = x + 1; y < come; y++) {
                    if (inReach(x, y)) {
                        found += likeness(x, y);
                    }
                }
            }
            return found;
        }

        int sees(int x, int y, boolean is) {
            seenX[seen] = x;
            seenY[seen] = y;
            seenIs[seen] = is;
            seen++;
            return seen;
        }

        boolean canPlan(int what, int k, int v) {
            switch (what) {
                case 0:
                    return hasCandidate(k);
                case 1:
                case 2:
                    return hasItem(k);
                case 3:
                    return hasTwo(k, v);
                default:
                    return false;
            }
        }

        int plans(int what, int k, int v) {
            planWhat[planned] = what;
            planK[planned] = k;
            planV[planned] = v;
            planned++;
            return planned;
        }

        void followPlan() {
            for (int i = 0; i < planned; i++) {
                follow(planWhat[i], planK[i], planV[i]);
            }
        }

        private void follow(int what, int k, int v) {
            if (!canPlan(what, k, v)) {
                return;
            }
            switch (what) {
                case 0:
                    leaveBlank(k);
                    break;
                case 1:
                    key[k] = v;
                    break;
                case 2:
                    kind[k] = v;
                    break;
                default:
                    System.arraycopy(given[v], 0, given[k], 0, MOST_ITEMS);
                    break;
            }
        }
    }

    /** A fraction in lowest terms. */
    private static final class Ratio {
        // Euclid's way with two longs takes fewer than 100 steps.
        private static final int EUCLID = 1000;
        private long above = 0;
        private long below = 1;

        void put(long over, long under) {
            long common = commonDivisor(over, under);
            if (common > 0) {
                above = over / common;
                below = under / common;
            }
        }

        void copy(Ratio other) {
            above = other.above;
            below = other.below;
        }

        long half(int part) {
            return part == 0 ? above : below;
        }

        int against(Ratio other) {
            return compare(above, below, other.above, other.below);
        }

        private static long commonDivisor(long a, long b) {
            for (int step = 0; step < EUCLID && b != 0; step++) {
                long rest = a % b;
                a = b;
                b = rest;
            }
            return a;
        }

        /** a by b against c by d; what is by 0 is the greatest. Cross products would not fit into a long. */
        static int compare(long a, long b, long c, long d) {
            int sign = 1;
            for (int step = 0; step < EUCLID && b != 0 && d != 0; step++) {
                long whole = a / b;
                long otherWhole = c / d;
                if (whole != otherWhole) {
                    return whole < otherWhole ? -sign : sign;
                }
                long rest = a - whole * b;
                long otherRest = c - otherWhole * d;
                a = b;
                b = rest;
                c = d;
                d = otherRest;
                sign = -sign;
            }
            if (b == 0 && d == 0) {
                return 0;
            }
            return b == 0 ? sign : -sign;
        }
    }

    /** How likely two would be alike, item by item, by a supposition. */
    private static final class Odds {
        final int[] shares = new int[ANSWERS];
        int sum = 0;
        private long squares = 0;
        // In how many of all ways the likeness is 0, 1, ..; 144 ways an item at most, so that they fit into a long.
        private final long[] ways = new long[MOST_LIKENESS + 1];
        private long allWays = 1;
        private int likeness = 0;
        private long alikeRight = 0;
        private long alikeWrong = 0;
        private long any = 1;

        /** In how many ways each likeness of two comes, as if neither had answered the item but. */
        void spread(Exam exam, int x, int y, int by, int but) {
            for (int k = 1; k <= MOST_LIKENESS; k++) {
                ways[k] = 0;
            }
            ways[0] = 1;
            allWays = 1;
            likeness = 0;
            int worthRight = exam.used[WORTH_RIGHT];
            int worthWrong = exam.used[WORTH_WRONG];
            int top = 0;
            for (int item = 0; item < exam.items; item++) {
                if (item != but && exam.bothGave(item, x, y)) {
                    takeShares(exam, item, x, y);
                    weigh(exam, item, x, y, by);
                    top = Math.min(top + Math.max(worthRight, worthWrong), MOST_LIKENESS);
                    addItem(top, worthRight, worthWrong);
                    likeness += exam.likenessAt(item, x, y);
                }
            }
        }

        /** How likely the likeness that was spread last would be as great as it is, or greater. */
        void asGreat(Ratio to) {
            long tail = 0;
            for (int k = likeness; k <= MOST_LIKENESS; k++) {
                tail += ways[k];
            }
            to.put(tail, allWays);
        }

        void exactly(int k, Ratio to) {
            to.put(ways[k], allWays);
        }

        void takeShares(Exam exam, int item, int x, int y) {
            int kind = exam.kind[item];
            for (int answer = 0; answer < ANSWERS; answer++) {
                shares[answer] = kind == TOLD ? exam.parts[item][answer] : 1;
            }
            if (kind == LEARNT || kind == BARE) {
                learn(exam, item, kind == BARE ? x : -1, kind == BARE ? y : -1);
            }
            sum = 0;
            squares = 0;
            for (int answer = 0; answer < ANSWERS; answer++) {
                sum += shares[answer];
                squares += (long) shares[answer] * shares[answer];
            }
        }

        private void learn(Exam exam, int item, int butX, int butY) {
            for (int c = 0; c < exam.come; c++) {
                int answer = exam.given[c][item];
                if (answer >= 0 && c != butX && c != butY) {
                    shares[answer]++;
                }
            }
        }

        /** From the greatest likeness down, so that a row serves as the old one and the new one. */
        private void addItem(int top, int worthRight, int worthWrong) {
            long apart = any - alikeRight - alikeWrong;
            for (int k = top; k >= 0; k--) {
                long found = ways[k] * apart;
                if (k >= worthRight) {
                    found += ways[k - worthRight] * alikeRight;
                }
                if (k >= worthWrong) {
                    found += ways[k - worthWrong] * alikeWrong;
                }
                ways[k] = found;
            }
            allWays *= any;
        }

        /** By GIVEN and BOUND who was right stays right, which leaves one answer. */
        private void weigh(Exam exam, int item, int x, int y, int by) {
            int key = exam.key[item];
            int answer = exam.given[x][item];
            boolean oneRight = answer == key;
            boolean otherRight = exam.given[y][item] == key;
            long wrong = sum - shares[key];
            long rightSquare = (long) shares[key] * shares[key];
            if (by == FREE) {
                put(rightSquare, squares - rightSquare, (long) sum * sum);
            } else if (by == SOURCE) {
                put(oneRight ? shares[key] : 0, oneRight ? 0 : shares[answer], sum);
            } else if (oneRight || otherRight) {
                put(oneRight && otherRight ? 1 : 0, 0, 1);
            } else if (by == GIVEN) {
                put(0, squares - rightSquare, wrong * wrong);
            } else {
                put(0, shares[answer], wrong);
            }
        }

        private void put(long right, long wrong, long all) {
            alikeRight = right;
            alikeWrong = wrong;
            any = all;
        }
    }

    /** The pairs in order, the suspect ones ahead: by each rule these are the first ones. */
    private static final class Ranking {
        int size = 0;
        int suspects = 0;
        final int[] lower = new int[MOST_PAIRS];
        final int[] upper = new int[MOST_PAIRS];
        final long[] above = new long[MOST_PAIRS];
        final long[] below = new long[MOST_PAIRS];
        private final Ratio one = new Ratio();
        private final Ratio turned = new Ratio();

        boolean has(int k) {
            return k >= 0 && k < size;
        }

        void order(Exam exam, Odds odds, int by) {
            size = 0;
            for (int x = 0; x < exam.come; x++) {
                for (int y = x + 1; y < exam.come; y++) {
                    if (exam.inReach(x, y) && size < MOST_PAIRS) {
                        weighPair(exam, odds, x, y, by);
                        insert(x, y);
                    }
                }
            }
            suspects = countSuspects(exam.used[RULE], exam.used[LEVEL]);
        }

        int placeOf(int x, int y) {
            int low = Math.min(x, y);
            int high = Math.max(x, y);
            for (int k = 0; k < size; k++) {
                if (lower[k] == low && upper[k] == high) {
                    return k;
                }
            }
            return -1;
        }

        boolean agrees(Exam exam) {
            for (int i = 0; i < exam.seen; i++) {
                int k = placeOf(exam.seenX[i], exam.seenY[i]);
                boolean suspect = k >= 0 && k < suspects;
                if (suspect != exam.seenIs[i]) {
                    return false;
                }
            }
            return true;
        }

        private void weighPair(Exam exam, Odds odds, int x, int y, int by) {
            odds.spread(exam, x, y, by, NO_ITEM);
            odds.asGreat(one);
            if (by == SOURCE || by == BOUND) {
                odds.spread(exam, y, x, by, NO_ITEM);
                odds.asGreat(turned);
                if (turned.against(one) < 0) {
                    one.copy(turned);
                }
            }
        }

        /** Pairs come by x, then y: one of like odds stays behind those that came before it. */
        private void insert(int x, int y) {
            int at = size;
            while (at > 0 && Ratio.compare(one.half(0), one.half(1), above[at - 1], below[at - 1]) < 0) {
                lower[at] = lower[at - 1];
                upper[at] = upper[at - 1];
                above[at] = above[at - 1];
                below[at] = below[at - 1];
                at--;
            }
            lower[at] = x;
            upper[at] = y;
            above[at] = one.half(0);
            below[at] = one.half(1);
            size++;
        }

        private int countSuspects(int rule, int level) {
            if (rule == MISTAKES) {
                int found = size;
                while (found > 0 && !holds(found - 1, rule, level)) {
                    found--;
                }
                return found;
            }
            int found = 0;
            while (found < size && holds(found, rule, level)) {
                found++;
            }
            return found;
        }

        private boolean holds(int k, int rule, int level) {
            int times = 1;
            int by = 1;
            switch (rule) {
                case EACH:
                    break;
                case FAMILY:
                    times = size;
                    break;
                case STEPS:
                    times = size - k;
                    break;
                default:
                    times = size;
                    by = k + 1;
                    break;
            }
            return Ratio.compare(above[k], below[k], (long) level * by, 1000L * times) <= 0;
        }
    }

    /** Who is suspect with whom, as bits. */
    private static final class Links {
        private static final int SETS = 1 << MOST_CANDIDATES;
        final int[] suspectWith = new int[MOST_CANDIDATES];

        void take(Ranking ranking) {
            for (int c = 0; c < MOST_CANDIDATES; c++) {
                suspectWith[c] = 0;
            }
            for (int k = 0; k < ranking.suspects; k++) {
                int x = ranking.lower[k];
                int y = ranking.upper[k];
                suspectWith[x] |= 1 << y;
                suspectWith[y] |= 1 << x;
            }
        }

        boolean areSuspect(int x, int y) {
            return (suspectWith[x] >> y & 1) != 0;
        }

        int reachedFrom(int candidate) {
            int reached = 1 << candidate;
            for (int round = 0; round < MOST_CANDIDATES; round++) {
                for (int c = 0; c < MOST_CANDIDATES; c++) {
                    if ((reached >> c & 1) != 0) {
                        reached |= suspectWith[c];
                    }
                }
            }
            return reached;
        }

        int groups() {
            int found = 0;
            for (int set = 1; set < SETS; set++) {
                if (isGroup(set)) {
                    found++;
                }
            }
            return found;
        }

        int greatest() {
            int most = 0;
            for (int set = 1; set < SETS; set++) {
                if (isGroup(set)) {
                    most = Math.max(most, Integer.bitCount(set));
                }
            }
            return most;
        }

        int groupAt(int k) {
            int found = 0;
            for (int set = 1; set < SETS; set++) {
                if (isGroup(set)) {
                    if (found == k) {
                        return set;
                    }
                    found++;
                }
            }
            return -1;
        }

        private boolean isGroup(int set) {
            if (Integer.bitCount(set) < 2) {
                return false;
            }
            int withAll = SETS - 1;
            for (int c = 0; c < MOST_CANDIDATES; c++) {
                if ((set >> c & 1) != 0) {
                    if ((set & ~suspectWith[c]) != 1 << c) {
                        return false;
                    }
                    withAll &= suspectWith[c];
                }
            }
            return withAll == 0;
        }
    }

    /** The first ones that have seats, and all ways in which they have these seats. */
    private static final class Seating {
        private static final int MOST = 6;
        private static final int MOST_WAYS = 720;
        private int size = 0;
        private final int[] who = new int[MOST];
        // Which of their seats each has in a way; at first its own.
        private final int[] seatOf = new int[MOST];
        private final int[] nearTo = new int[MOST];
        private final int[] suspectWith = new int[MOST];

        void ways(Exam exam, Links links, int r, Ratio to) {
            gather(exam);
            relate(exam, links, r);
            int asNow = nearSuspects();
            int all = 0;
            int asMany = 0;
            boolean more = true;
            while (more && all < MOST_WAYS) {
                all++;
                if (nearSuspects() >= asNow) {
                    asMany++;
                }
                more = nextWay();
            }
            to.put(asMany, all);
        }

        private void gather(Exam exam) {
            size = 0;
            for (int c = 0; c < exam.come; c++) {
                if (exam.hasSeat(c) && size < MOST) {
                    who[size] = c;
                    seatOf[size] = size;
                    size++;
                }
            }
        }

        private void relate(Exam exam, Links links, int r) {
            for (int i = 0; i < size; i++) {
                nearTo[i] = 0;
                suspectWith[i] = 0;
                for (int j = 0; j < size; j++) {
                    if (j != i && exam.near(who[i], who[j], r)) {
                        nearTo[i] |= 1 << j;
                    }
                    if (j != i && links.areSuspect(who[i], who[j])) {
                        suspectWith[i] |= 1 << j;
                    }
                }
            }
        }

        private int nearSuspects() {
            int found = 0;
            for (int i = 0; i < size; i++) {
                for (int j = i + 1; j < size; j++) {
                    if ((suspectWith[i] >> j & 1) != 0 && (nearTo[seatOf[i]] >> seatOf[j] & 1) != 0) {
                        found++;
                    }
                }
            }
            return found;
        }

        /** The way that is next in the order of numbers; false behind the last. */
        private boolean nextWay() {
            int turn = size - 2;
            while (turn >= 0 && seatOf[turn] > seatOf[turn + 1]) {
                turn--;
            }
            if (turn < 0) {
                return false;
            }
            int next = size - 1;
            while (next > turn && seatOf[next] < seatOf[turn]) {
                next--;
            }
            swap(turn, next);
            for (int i = turn + 1, j = size - 1; i < j; i++, j--) {
                swap(i, j);
            }
            return true;
        }

        private void swap(int i, int j) {
            int kept = seatOf[i];
            seatOf[i] = seatOf[j];
            seatOf[j] = kept;
        }
    }

    /** Two who answer anew, by a seed. */
    private static final class Draws {
        private int seed = 0;

        int likeness(Exam exam, Odds odds, int from, int x, int y) {
            seed = from;
            int found = 0;
            for (int item = 0; item < exam.items; item++) {
                if (exam.bothGave(item, x, y)) {
                    odds.takeShares(exam, item, x, y);
                    int one = anAnswer(odds);
                    int other = anAnswer(odds);
                    if (one == other) {
                        found += exam.worth(item, one);
                    }
                }
            }
            return found;
        }

        private int anAnswer(Odds odds) {
            int draw = below(odds.sum);
            int upTo = 0;
            for (int answer = 0; answer < ANSWERS; answer++) {
                upTo += odds.shares[answer];
                if (upTo > draw) {
                    return answer;
                }
            }
            return ANSWERS - 1;
        }

        private int below(int k) {
            seed = seed * 1103515245 + 12345;
            return k > 0 ? (seed >>> 9) % k : 0;
        }
    }

    /** The text that sheets are read from. */
    private static final class Text {
        private static final int LONGEST = 60;
        private static final int MOST_CLAUSES = 4;
        // What is told of a clause whose digit is due.
        private static final int NO_DIGIT = -1;
        int size = 0;
        private final int[] signs = new int[LONGEST];

        boolean isFull() {
            return size >= LONGEST;
        }

        int append(int sign) {
            signs[size] = sign;
            size++;
            return size;
        }

        void empty() {
            size = 0;
        }

        /** How many clauses, or FAULT less the fault's place. */
        int examine(Exam exam) {
            int clauses = 0;
            int told = NO_DIGIT;
            for (int i = 0; i < size; i++) {
                int sign = signs[i];
                if (told == NO_DIGIT && exam.hasCandidate(sign - '0')) {
                    told = 0;
                    clauses++;
                } else if (told >= 0 && told < exam.items && isLetter(sign)) {
                    told++;
                } else if (told > 0 && sign == ';' && clauses < MOST_CLAUSES) {
                    told = NO_DIGIT;
                } else {
                    return FAULT - i;
                }
            }
            return told > 0 ? clauses : FAULT - size;
        }

        /** The text has been examined: each letter has its candidate and its item. */
        void tell(Exam exam) {
            int candidate = -1;
            int item = 0;
            for (int i = 0; i < size; i++) {
                int sign = signs[i];
                if (sign == ';') {
                    candidate = -1;
                } else if (candidate == -1) {
                    candidate = sign - '0';
                    item = 0;
                } else if (exam.hasCandidate(candidate) && exam.hasItem(item)) {
                    exam.given[candidate][item] = sign == '-' ? -1 : sign - 'a';
                    item++;
                }
            }
        }

        private static boolean isLetter(int sign) {
            return sign == '-' || sign >= 'a' && sign <= 'd';
        }
    }

    /** A row of one sort, or nothing. */
    private static final class Tape {
        static final int NO_SORT = -1, BYTES = 0, SHORTS = 1, INTS = 2, LONGS = 3, BOOLEANS = 4;
        static final int LONGEST = 60;
        int sort = NO_SORT;
        private int size = 0;
        final long[] row = new long[LONGEST];

        void begin(int newSort, int n) {
            sort = newSort;
            size = n;
            for (int i = 0; i < LONGEST; i++) {
                row[i] = 0;
            }
        }

        boolean holdsNothing() {
            return sort == NO_SORT;
        }

        boolean hasPlace(int i) {
            return i >= 0 && i < size;
        }

        /** Whether i and more is a place; their sum might be beyond an int. */
        boolean hasPlaceBehind(int i, int more) {
            return i >= 0 && i < size - more;
        }

        boolean hasStretch(int from, int n) {
            return n >= 0 && n <= size && from >= 0 && from <= size - n;
        }

        long fitted(long v) {
            switch (sort) {
                case BYTES:
                    return (byte) v;
                case SHORTS:
                    return (short) v;
                case INTS:
                    return (int) v;
                case LONGS:
                    return v;
                default:
                    return v != 0 ? 1 : 0;
            }
        }
    }
}
