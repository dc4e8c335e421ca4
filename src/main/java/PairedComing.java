import java.util.Arrays;

/** Posts that wait, guests who come one by one: see ../shared/DOC.md for every promise. */
public final class PairedComing {
    public static final int BAD = -1, STATE = -2, FULL = -3, NONE = -4;

    private static final int POSTS = 6, GUESTS = 9, RULES = 6, SHEETS = 4;
    private static final int ROOM = 3, ROOMS = 10, RANK = 99, BUDGET = 999, WORTH = 99, CHANCE = 9;
    private static final int TAPE = 160, FED = 8;
    private static final int ORDERED = 6, STEPS = 6, NET = 3, NET_BUDGET = 999;
    private static final int LANES = 3, CELLS = 64;

    /** The machine's faults, as they are told behind -10. */
    private static final int NULL = 1, INDEX = 2, CAST = 3, SIZE = 4;

    private static final int FAULTS = -10, NO_WORTH = -100;

    /** From this number on, a 'what' asks for one guest or for one key. */
    private static final int EACH = 10;

    /** All ways 10 rooms of 6 posts may be free are at most 3*3*3*3*2*2; with one room more 3*3*3*3*3*2. */
    private static final int STATES = 324, STATES_AND_MORE = 486;

    private final Board board = new Board();
    private final Standing market = new Standing(board);
    private final Standing practice = new Standing(board);
    private final Board trial = new Board();
    private final Standing trialRun = new Standing(trial);
    private final Plan plan = new Plan();
    private final Hopes hopes = new Hopes(board);
    private final Tape tape = new Tape();
    private final Rule[] rules = new Rule[RULES];
    private final Sheet[] sheets = new Sheet[SHEETS];
    private final int[] turns = new int[GUESTS];
    private final int[] priceOf = new int[POSTS];
    private int ruleCount;
    private int lastFault;

    public PairedComing() {
        for (int r = 0; r < RULES; r++) {
            rules[r] = new Rule();
        }
        for (int k = 0; k < SHEETS; k++) {
            sheets[k] = new Sheet();
        }
    }

    // ---- posts and guests

    public int post(int room, int rank, int budget) {
        if (!isIn(room, 1, ROOM) || !isIn(rank, 0, RANK) || !isIn(budget, 1, BUDGET)) {
            return BAD;
        }
        if (market.came > 0) {
            return STATE;
        }
        if (board.posts >= POSTS || board.allRooms() + room > ROOMS) {
            return FULL;
        }
        return board.addPost(room, rank, budget);
    }

    public int guest() {
        return board.guests >= GUESTS ? FULL : board.addGuest();
    }

    public int worth(int g, int p, int v) {
        if (!isGuest(g) || !isPost(p) || !isIn(v, 0, WORTH)) {
            return BAD;
        }
        if (market.hasCome(g)) {
            return STATE;
        }
        int was = board.worthAt(g, p);
        board.putWorth(g, p, v);
        return was;
    }

    public int chance(int g, int v) {
        if (!isGuest(g) || !isIn(v, 0, CHANCE)) {
            return BAD;
        }
        int was = board.chance[g];
        board.putChance(g, v);
        return was;
    }

    public int rank(int p, int v) {
        if (!isPost(p) || !isIn(v, 0, RANK)) {
            return BAD;
        }
        if (market.came > 0) {
            return STATE;
        }
        int was = board.rank[p];
        board.putRank(p, v);
        return was;
    }

    public int told(int p, int what) {
        if (!isPost(p)) {
            return BAD;
        }
        switch (what) {
            case 0: return board.room[p];
            case 1: return board.rank[p];
            case 2: return board.budget[p];
            case 3: return market.freeAt(p);
            case 4: return market.paid[p];
            case 5: return market.heldBits(p);
            case 6: return board.linksOf(p);
            default: return BAD;
        }
    }

    // ---- rules

    public int feed(long v) {
        if (tape.length + FED > TAPE) {
            return FULL;
        }
        tape.addEight(v);
        return tape.length;
    }

    public int end(int n) {
        if (!isIn(n, 0, tape.length)) {
            return BAD;
        }
        int had = tape.length;
        tape.length = n;
        return had;
    }

    public int rule() {
        if (ruleCount >= RULES) {
            return FULL;
        }
        tape.readInto(rules[ruleCount]);
        tape.length = 0;
        lastFault = tape.fault;
        if (lastFault != 0) {
            return FAULTS - tape.faultPlace;
        }
        ruleCount++;
        return ruleCount - 1;
    }

    public int fault() {
        return lastFault;
    }

    public int ruleOf(int r, int what) {
        if (!isRule(r)) {
            return BAD;
        }
        Rule rule = rules[r];
        if (isEach(what, rule.keys)) {
            int i = what - EACH;
            return rule.keyKind[i] + (rule.keyLeast[i] ? 10 : 0);
        }
        switch (what) {
            case 0: return rule.keys;
            case 1: return rule.tests;
            case 2: return rule.drops ? 1 : 0;
            default: return BAD;
        }
    }

    public int run(int r, int what) {
        if (!isRule(r) || !isIn(what, 0, 3) && !isEach(what, board.guests)) {
            return BAD;
        }
        practice.runByNumbers(rules[r]);
        switch (what) {
            case 0: return practice.value();
            case 1: return practice.kept();
            case 2: return practice.paired();
            case 3: return practice.dropped;
            default: return practice.held[what - EACH];
        }
    }

    public int runBy(int r, int order) {
        if (!isRule(r) || !readOrder(order)) {
            return BAD;
        }
        practice.clear();
        for (int i = 0; i < board.guests; i++) {
            practice.comeBy(turns[i], rules[r]);
        }
        return practice.value();
    }

    // ---- the best ahead, prices

    public int best() {
        plan.makeBest(board);
        return plan.sum;
    }

    public int bestOf(int g) {
        if (!isGuest(g)) {
            return BAD;
        }
        plan.makeBest(board);
        return plan.postOf[g];
    }

    public int price(int p) {
        if (!isPost(p)) {
            return BAD;
        }
        plan.makeBest(board);
        return plan.greatest(board, p) - plan.sum;
    }

    public int cover(long prices) {
        if (!readPrices(prices)) {
            return BAD;
        }
        int sum = 0;
        for (int p = 0; p < board.posts; p++) {
            sum += board.room[p] * priceOf[p];
        }
        for (int g = 0; g < board.guests; g++) {
            sum += board.gainOver(g, priceOf);
        }
        return sum;
    }

    public int share(int r, int over, int under) {
        if (!isRule(r) || !isIn(over, 0, 99) || !isIn(under, 1, 99)) {
            return BAD;
        }
        practice.runByNumbers(rules[r]);
        plan.makeBest(board);
        return practice.kept() * under >= over * plan.sum ? 1 : 0;
    }

    // ---- means, hopes

    public long mean(int r, int what) {
        if (!isRule(r) || !isIn(what, 0, 1)) {
            return BAD;
        }
        if (board.guests > ORDERED) {
            return STATE;
        }
        Mean mean = meanOverOrders(rules[r]);
        return inLowestTerms(mean.sum, mean.ways, what);
    }

    public int ends(int r, int what) {
        if (!isRule(r) || !isIn(what, 0, 1)) {
            return BAD;
        }
        if (board.guests > ORDERED) {
            return STATE;
        }
        Mean mean = meanOverOrders(rules[r]);
        return what == 0 ? mean.least : mean.greatest;
    }

    public long meanOfRanks(int r, int what) {
        if (!isRule(r) || !isIn(what, 0, 1)) {
            return BAD;
        }
        Mean mean = rules[r].byRanks;
        if (mean.isStale(board.version)) {
            mean.start(board.version);
            trial.copyOf(board);
            // A rule that asks for no rank runs alike in all ways: one is as good as all.
            overRanks(trialRun, rules[r], mean, rules[r].asksRank() ? 0 : board.posts);
        }
        return inLowestTerms(mean.sum, mean.ways, what);
    }

    public long hope(int n, int what) {
        if (!isIn(n, 0, STEPS) || !isIn(what, 0, 1)) {
            return BAD;
        }
        hopes.bringUp();
        if (hopes.chances == 0) {
            return STATE;
        }
        return inLowestTerms(hopes.atStart(n), hopes.scale[n], what);
    }

    public int hopeFor(int g, int n) {
        if (!isGuest(g) || !isIn(n, 1, STEPS)) {
            return BAD;
        }
        hopes.bringUp();
        if (hopes.chances == 0) {
            return STATE;
        }
        return hopes.firstPost(g, n);
    }

    public int batch(int b, int what) {
        if (!isIn(b, 1, GUESTS) || what != 0 && !isEach(what, board.guests)) {
            return BAD;
        }
        plan.make(board, b);
        return what == 0 ? plan.sum : plan.postOf[what - EACH];
    }

    public int worst(int r, int n, int what) {
        if (!isRule(r) || !isIn(n, 1, NET) || !isIn(what, 0, 3)) {
            return BAD;
        }
        Worst worst = rules[r].worst[n - 1];
        if (!worst.isKnown()) {
            searchNets(rules[r], n, worst);
        }
        switch (what) {
            case 0: return (int) inLowestTerms(worst.value, worst.best, 0);
            case 1: return (int) inLowestTerms(worst.value, worst.best, 1);
            case 2: return worst.bits;
            default: return worst.whole;
        }
    }

    // ---- the market

    public int come(int g, int r) {
        if (!isGuest(g) || !isRule(r)) {
            return BAD;
        }
        return market.hasCome(g) ? STATE : market.comeBy(g, rules[r]);
    }

    public int let(int g, int p) {
        if (!isGuest(g) || !isPost(p)) {
            return BAD;
        }
        if (market.hasCome(g) || !market.canTake(g, p)) {
            return STATE;
        }
        return market.enter(g, p);
    }

    public int leave(int g) {
        if (!isGuest(g)) {
            return BAD;
        }
        return market.held[g] == NONE ? STATE : market.goAway(g);
    }

    public int undo() {
        if (market.acts == 0) {
            return NONE;
        }
        market.takeBack();
        return market.acts;
    }

    public int market(int what) {
        if (isEach(what, board.guests)) {
            return market.held[what - EACH];
        }
        switch (what) {
            case 0: return market.value();
            case 1: return market.kept();
            case 2: return market.came;
            case 3: return market.paired();
            case 4: return market.acts;
            default: return BAD;
        }
    }

    // ---- sheets

    public int sheet(int k, int lane, int n) {
        if (!isSheet(k) || !isIn(lane, 0, LANES - 1) || n > CELLS) {
            return BAD;
        }
        if (n < 0) {
            return FAULTS - SIZE;
        }
        sheets[k].renew(lane, n);
        return 1;
    }

    public int lay(int k, int i, int v) {
        if (!isSheet(k)) {
            return BAD;
        }
        Sheet sheet = sheets[k];
        if (sheet.isNothing()) {
            return FAULTS - NULL;
        }
        if (!sheet.hasCell(i)) {
            return FAULTS - INDEX;
        }
        sheet.put(i, v);
        return 1;
    }

    public int net(int k, int lane, int f) {
        if (!isSheet(k) || !isIn(lane, 0, LANES - 1)) {
            return BAD;
        }
        Sheet sheet = sheets[k];
        if (sheet.isNothing()) {
            return FAULTS - NULL;
        }
        if (sheet.lane != lane) {
            return FAULTS - CAST;
        }
        int cells = board.guests * board.posts;
        for (int i = 0; i < cells; i++) {
            if (!sheet.hasCell(f + i)) {
                return FAULTS - INDEX;
            }
            if (!isIn(sheet.cells[f + i], 0, WORTH)) {
                return NO_WORTH - i;
            }
        }
        return market.came > 0 ? STATE : readWorths(sheet, f);
    }

    public int count(int what) {
        switch (what) {
            case 0: return board.posts;
            case 1: return board.guests;
            case 2: return ruleCount;
            case 3: return board.allLinks();
            case 4: return board.allRooms();
            case 5: return tape.length;
            case 6: return sheets[0].isNothing() ? NONE : sheets[0].size;
            default: return BAD;
        }
    }

    // ---- what the calls share

    private static boolean isIn(int v, int least, int most) {
        return v >= least && v <= most;
    }

    private static boolean isEach(int what, int howMany) {
        return what >= EACH && what - EACH < howMany;
    }

    private boolean isPost(int p) {
        return p >= 0 && p < board.posts;
    }

    private boolean isGuest(int g) {
        return g >= 0 && g < board.guests;
    }

    private boolean isRule(int r) {
        return r >= 0 && r < ruleCount;
    }

    private static boolean isSheet(int k) {
        return k >= 0 && k < SHEETS;
    }

    /** Whether the digits name each guest once; the guests then stand in turns. */
    private boolean readOrder(int order) {
        if (order < 0) {
            return false;
        }
        int rest = order;
        int seen = 0;
        for (int i = board.guests - 1; i >= 0; i--) {
            int g = rest % 10;
            rest /= 10;
            if (g >= board.guests || (seen >> g & 1) != 0) {
                return false;
            }
            seen |= 1 << g;
            turns[i] = g;
        }
        return rest == 0;
    }

    /** Whether the digits, two for each post, tell no post too many; the prices then stand in priceOf. */
    private boolean readPrices(long prices) {
        if (prices < 0) {
            return false;
        }
        long rest = prices;
        for (int p = 0; p < board.posts; p++) {
            priceOf[p] = (int) (rest % 100);
            rest /= 100;
        }
        return rest == 0;
    }

    private int readWorths(Sheet sheet, int f) {
        int changed = 0;
        int at = f;
        for (int g = 0; g < board.guests; g++) {
            for (int p = 0; p < board.posts; p++) {
                if (board.worthAt(g, p) != sheet.cells[at]) {
                    board.putWorth(g, p, sheet.cells[at]);
                    changed++;
                }
                at++;
            }
        }
        return changed;
    }

    private Mean meanOverOrders(Rule rule) {
        Mean mean = rule.byOrders;
        if (mean.isStale(board.version)) {
            mean.start(board.version);
            practice.clear();
            overOrders(practice, rule, mean, 0);
        }
        return mean;
    }

    /** Orders that begin alike share that beginning: each guest comes, and is taken back. */
    private static void overOrders(Standing standing, Rule rule, Mean mean, int depth) {
        int guests = standing.board.guests;
        if (depth >= guests || depth >= ORDERED) {
            mean.add(standing.value());
            return;
        }
        for (int g = 0; g < guests; g++) {
            if (!standing.hasCome(g)) {
                standing.comeBy(g, rule);
                overOrders(standing, rule, mean, depth + 1);
                standing.takeBack();
            }
        }
    }

    /** Posts below depth have their ranks; every rank that is left goes to post depth once. */
    private static void overRanks(Standing standing, Rule rule, Mean mean, int depth) {
        Board on = standing.board;
        if (depth >= on.posts || depth >= POSTS) {
            standing.runByNumbers(rule);
            mean.add(standing.value());
            return;
        }
        for (int p = depth; p < on.posts; p++) {
            on.swapRanks(depth, p);
            overRanks(standing, rule, mean, depth + 1);
            on.swapRanks(depth, p);
        }
    }

    private void searchNets(Rule rule, int n, Worst worst) {
        trial.becomeSquare(n);
        int nets = 1 << n * n;
        for (int bits = 1; bits < nets; bits++) {
            trial.linkByBits(bits);
            trialRun.runByNumbers(rule);
            worst.add(trialRun.value(), plan.greatest(trial, NONE), bits);
        }
    }

    private static long inLowestTerms(long over, long under, int what) {
        long common = commonDivisor(over, under);
        long part = what == 0 ? over : under;
        return common > 0 ? part / common : part;
    }

    private static long commonDivisor(long a, long b) {
        long x = a;
        long y = b;
        // Longs have no more than some ninety steps.
        for (int i = 0; i < 200 && y != 0; i++) {
            long rest = x % y;
            x = y;
            y = rest;
        }
        return x;
    }

    /** Posts and guests with all that is told of them, and no pairs. */
    private static final class Board {
        final int[] room = new int[POSTS];
        final int[] rank = new int[POSTS];
        final int[] budget = new int[POSTS];
        final int[] chance = new int[GUESTS];
        /** Guest by guest, POSTS places for each. */
        final int[] worths = new int[GUESTS * POSTS];
        int posts;
        int guests;
        /** Grows with each change, so that what was worked out before can be told as stale. */
        int version;

        int addPost(int itsRoom, int itsRank, int itsBudget) {
            room[posts] = itsRoom;
            rank[posts] = itsRank;
            budget[posts] = itsBudget;
            posts++;
            version++;
            return posts - 1;
        }

        int addGuest() {
            chance[guests] = 1;
            guests++;
            version++;
            return guests - 1;
        }

        int worthAt(int g, int p) {
            return worths[g * POSTS + p];
        }

        void putWorth(int g, int p, int v) {
            worths[g * POSTS + p] = v;
            version++;
        }

        void putChance(int g, int v) {
            chance[g] = v;
            version++;
        }

        void putRank(int p, int v) {
            rank[p] = v;
            version++;
        }

        void swapRanks(int p, int q) {
            int kept = rank[p];
            rank[p] = rank[q];
            rank[q] = kept;
        }

        int allRooms() {
            int sum = 0;
            for (int p = 0; p < posts; p++) {
                sum += room[p];
            }
            return sum;
        }

        int linksOf(int p) {
            int links = 0;
            for (int g = 0; g < guests; g++) {
                if (worthAt(g, p) > 0) {
                    links++;
                }
            }
            return links;
        }

        int allLinks() {
            int links = 0;
            for (int p = 0; p < posts; p++) {
                links += linksOf(p);
            }
            return links;
        }

        /** The greatest worth less price for a guest, 0 at least. */
        int gainOver(int g, int[] prices) {
            int gain = 0;
            for (int p = 0; p < posts; p++) {
                gain = Math.max(gain, worthAt(g, p) - prices[p]);
            }
            return gain;
        }

        void copyOf(Board other) {
            System.arraycopy(other.room, 0, room, 0, POSTS);
            System.arraycopy(other.rank, 0, rank, 0, POSTS);
            System.arraycopy(other.budget, 0, budget, 0, POSTS);
            System.arraycopy(other.worths, 0, worths, 0, GUESTS * POSTS);
            posts = other.posts;
            guests = other.guests;
        }

        /** As the document's nets are: n posts of one room each, n guests. */
        void becomeSquare(int n) {
            posts = n;
            guests = n;
            for (int p = 0; p < n; p++) {
                room[p] = 1;
                rank[p] = p;
                budget[p] = NET_BUDGET;
            }
        }

        void linkByBits(int bits) {
            int rest = bits;
            for (int g = 0; g < guests; g++) {
                for (int p = 0; p < posts; p++) {
                    worths[g * POSTS + p] = rest & 1;
                    rest >>= 1;
                }
            }
        }
    }

    /** Who has come to a board, who holds room where, and what was paid; every act can be taken back. */
    private static final class Standing {
        /** Each guest comes once and goes once at most. */
        private static final int ACTS = 2 * GUESTS;

        final Board board;
        final int[] taken = new int[POSTS];
        final int[] paid = new int[POSTS];
        final int[] held = new int[GUESTS];
        /** The how-manieth a guest was to come, from 1; 0: it has not. */
        final int[] cameAs = new int[GUESTS];
        final int[] actGuest = new int[ACTS];
        final int[] actPost = new int[ACTS];
        final int[] actPays = new int[ACTS];
        final int[] actDropped = new int[ACTS];
        final boolean[] actGoes = new boolean[ACTS];
        int came;
        int dropped;
        int acts;

        Standing(Board on) {
            board = on;
            Arrays.fill(held, NONE);
        }

        void clear() {
            Arrays.fill(taken, 0);
            Arrays.fill(paid, 0);
            Arrays.fill(held, NONE);
            Arrays.fill(cameAs, 0);
            came = 0;
            dropped = 0;
            acts = 0;
        }

        void runByNumbers(Rule rule) {
            clear();
            for (int g = 0; g < board.guests; g++) {
                comeBy(g, rule);
            }
        }

        boolean hasCome(int g) {
            return cameAs[g] > 0;
        }

        int freeAt(int p) {
            return board.room[p] - taken[p];
        }

        int heldBits(int p) {
            int bits = 0;
            for (int g = 0; g < board.guests; g++) {
                if (held[g] == p) {
                    bits |= 1 << g;
                }
            }
            return bits;
        }

        int value() {
            int sum = 0;
            for (int p = 0; p < board.posts; p++) {
                sum += paid[p];
            }
            return sum;
        }

        int kept() {
            int sum = 0;
            for (int g = 0; g < board.guests; g++) {
                if (held[g] != NONE) {
                    sum += board.worthAt(g, held[g]);
                }
            }
            return sum;
        }

        int paired() {
            int howMany = 0;
            for (int g = 0; g < board.guests; g++) {
                if (held[g] != NONE) {
                    howMany++;
                }
            }
            return howMany;
        }

        /** Whether a post with room left could take the guest. */
        boolean canTake(int g, int p) {
            return board.worthAt(g, p) > 0 && freeAt(p) > 0 && paid[p] < board.budget[p];
        }

        int comeBy(int g, Rule rule) {
            int p = choose(g, rule);
            enter(g, p);
            return p;
        }

        private int choose(int g, Rule rule) {
            int chosen = NONE;
            for (int p = 0; p < board.posts; p++) {
                boolean had = canTake(g, p) || rule.drops && canTakeByDrop(g, p);
                if (had && passes(g, p, rule) && (chosen == NONE || isAhead(g, p, chosen, rule))) {
                    chosen = p;
                }
            }
            return chosen;
        }

        private boolean canTakeByDrop(int g, int p) {
            if (freeAt(p) > 0 || paid[p] >= board.budget[p]) {
                return false;
            }
            int weakest = weakestAt(p);
            return weakest != NONE && board.worthAt(weakest, p) < board.worthAt(g, p);
        }

        /** The guest of the least worth there, of several the latest that came. */
        private int weakestAt(int p) {
            int weakest = NONE;
            int least = 0;
            for (int g = 0; g < board.guests; g++) {
                if (held[g] == p) {
                    int worth = board.worthAt(g, p);
                    if (weakest == NONE || worth < least || worth == least && cameAs[g] > cameAs[weakest]) {
                        weakest = g;
                        least = worth;
                    }
                }
            }
            return weakest;
        }

        private boolean passes(int g, int p, Rule rule) {
            for (int i = 0; i < rule.tests; i++) {
                int key = keyOf(rule.testKind[i], g, p);
                int number = rule.testNumber[i];
                if (rule.testBelow[i] ? key >= number : key <= number) {
                    return false;
                }
            }
            return true;
        }

        /** Whether post p goes ahead of post q, whose number is less. */
        private boolean isAhead(int g, int p, int q, Rule rule) {
            for (int i = 0; i < rule.keys; i++) {
                int here = keyOf(rule.keyKind[i], g, p);
                int there = keyOf(rule.keyKind[i], g, q);
                if (here != there) {
                    return rule.keyLeast[i] ? here < there : here > there;
                }
            }
            return false;
        }

        private int keyOf(int kind, int g, int p) {
            switch (kind) {
                case Tape.WORTH_KEY: return board.worthAt(g, p);
                case Tape.LEFT_KEY: return board.room[p] > 0 ? 100 * freeAt(p) / board.room[p] : 0;
                case Tape.ROOM_KEY: return freeAt(p);
                case Tape.RANK_KEY: return board.rank[p];
                case Tape.PAID_KEY: return paid[p];
                default: return p;
            }
        }

        /** The guest comes to a post, or to none: what is paid. A full post drops one guest for it. */
        int enter(int g, int p) {
            int out = NONE;
            int pays = 0;
            if (p != NONE) {
                if (freeAt(p) <= 0) {
                    out = weakestAt(p);
                    drop(out, p);
                }
                pays = Math.min(board.worthAt(g, p), board.budget[p] - paid[p]);
                held[g] = p;
                taken[p]++;
                paid[p] += pays;
            }
            came++;
            cameAs[g] = came;
            note(g, p, pays, out, false);
            return pays;
        }

        private void drop(int out, int p) {
            if (out != NONE) {
                held[out] = NONE;
                taken[p]--;
                dropped++;
            }
        }

        int goAway(int g) {
            int p = held[g];
            held[g] = NONE;
            taken[p]--;
            note(g, p, 0, NONE, true);
            return p;
        }

        private void note(int g, int p, int pays, int out, boolean goes) {
            if (acts < ACTS) {
                actGuest[acts] = g;
                actPost[acts] = p;
                actPays[acts] = pays;
                actDropped[acts] = out;
                actGoes[acts] = goes;
                acts++;
            }
        }

        void takeBack() {
            if (acts <= 0) {
                return;
            }
            acts--;
            int g = actGuest[acts];
            int p = actPost[acts];
            if (actGoes[acts]) {
                held[g] = p;
                taken[p]++;
                return;
            }
            came--;
            cameAs[g] = 0;
            if (p != NONE) {
                held[g] = NONE;
                taken[p]--;
                paid[p] -= actPays[acts];
                takeBackDrop(actDropped[acts], p);
            }
        }

        private void takeBackDrop(int out, int p) {
            if (out != NONE) {
                held[out] = p;
                taken[p]++;
                dropped--;
            }
        }
    }

    /** A rule as its text tells it, and what has been worked out for it. */
    private static final class Rule {
        static final int TESTS = 4;

        final int[] keyKind = new int[Tape.KEYS];
        final boolean[] keyLeast = new boolean[Tape.KEYS];
        final int[] testKind = new int[TESTS];
        final boolean[] testBelow = new boolean[TESTS];
        final int[] testNumber = new int[TESTS];
        final Mean byOrders = new Mean();
        final Mean byRanks = new Mean();
        /** For nets of size 1 and more; a rule never changes, so these stay true. */
        final Worst[] worst = new Worst[NET];
        int keys;
        int tests;
        boolean drops;

        Rule() {
            for (int n = 0; n < NET; n++) {
                worst[n] = new Worst();
            }
        }

        void clear() {
            keys = 0;
            tests = 0;
            drops = false;
        }

        boolean hasKey(int kind) {
            for (int i = 0; i < keys; i++) {
                if (keyKind[i] == kind) {
                    return true;
                }
            }
            return false;
        }

        boolean asksRank() {
            for (int i = 0; i < tests; i++) {
                if (testKind[i] == Tape.RANK_KEY) {
                    return true;
                }
            }
            return hasKey(Tape.RANK_KEY);
        }

        void addKey(int kind, boolean least) {
            if (keys < Tape.KEYS) {
                keyKind[keys] = kind;
                keyLeast[keys] = least;
                keys++;
            }
        }

        void addTest(int kind, boolean below, int number) {
            if (tests < TESTS) {
                testKind[tests] = kind;
                testBelow[tests] = below;
                testNumber[tests] = number;
                tests++;
            }
        }
    }

    /** The bytes of the tape, read as the text of a rule, one token ahead. */
    private static final class Tape {
        static final int WORTH_KEY = 0, LEFT_KEY = 1, ROOM_KEY = 2, RANK_KEY = 3, PAID_KEY = 4;
        static final int KEYS = 6;
        private static final int BY = 6, IF = 7, AND = 8, DROP = 9, NAMES = 10;
        private static final int PLUS = 10, MINUS = 11, COMMA = 12, BELOW = 13, ABOVE = 14, STOP = 15;
        private static final int NUMBER = 16, END = 17, BROKEN = 18;

        /** By the tokens' numbers, each name with blanks to the same width. */
        private static final String NAME_TEXTS =
            "worth left  room  rank  paid  numberby    if    and   drop  ";
        private static final int WIDTH = 6;
        private static final String SIGNS = "+-,<>;";
        private static final int FIGURES = 3;

        private static final int NO_TOKEN = 1, NO_PLACE = 2, SAME_KEY = 3, FIFTH_TEST = 4, BEHIND = 5;

        int length;
        int fault;
        int faultPlace;
        private final int[] bytes = new int[TAPE];
        private int at;
        private int token;
        private int tokenPlace;
        private int number;

        void addEight(long v) {
            for (int shift = 56; shift >= 0 && length < TAPE; shift -= 8) {
                bytes[length] = (int) (v >>> shift) & 255;
                length++;
            }
        }

        void readInto(Rule rule) {
            at = 0;
            fault = 0;
            faultPlace = 0;
            rule.clear();
            advance();
            expect(BY);
            readKey(rule);
            for (int i = 0; token == COMMA && i < TAPE; i++) {
                advance();
                readKey(rule);
            }
            if (token == IF) {
                advance();
                readTest(rule);
                for (int i = 0; token == AND && i < TAPE; i++) {
                    advance();
                    readTest(rule);
                }
            }
            if (token == DROP) {
                rule.drops = true;
                advance();
            }
            expect(STOP);
            if (token != END) {
                fail(BEHIND);
            }
        }

        private void readKey(Rule rule) {
            boolean least = token == MINUS;
            expect(least ? MINUS : PLUS);
            int kind = token;
            if (!isKey(kind)) {
                fail(NO_PLACE);
            } else if (rule.hasKey(kind)) {
                fail(SAME_KEY);
            } else {
                rule.addKey(kind, least);
                advance();
            }
        }

        private void readTest(Rule rule) {
            int kind = token;
            if (!isKey(kind)) {
                fail(NO_PLACE);
            } else if (rule.tests >= Rule.TESTS) {
                fail(FIFTH_TEST);
            } else {
                advance();
            }
            boolean below = token == BELOW;
            expect(below ? BELOW : ABOVE);
            int told = number;
            expect(NUMBER);
            rule.addTest(kind, below, told);
        }

        private static boolean isKey(int kind) {
            return kind >= 0 && kind < KEYS;
        }

        private void expect(int wanted) {
            if (token == wanted) {
                advance();
            } else {
                fail(NO_PLACE);
            }
        }

        /** The first fault stays; behind it no token fits anything, so that reading runs out. */
        private void fail(int which) {
            if (fault == 0) {
                fault = which;
                faultPlace = tokenPlace;
            }
            token = BROKEN;
        }

        private void advance() {
            if (fault != 0) {
                return;
            }
            while (at < length && bytes[at] == ' ') {
                at++;
            }
            tokenPlace = at;
            if (at >= length) {
                token = END;
            } else if (isLetter(bytes[at])) {
                readName();
            } else if (isFigure(bytes[at])) {
                readNumber();
            } else {
                readSign();
            }
        }

        private static boolean isLetter(int b) {
            return b >= 'a' && b <= 'z';
        }

        private static boolean isFigure(int b) {
            return b >= '0' && b <= '9';
        }

        private void readName() {
            while (at < length && isLetter(bytes[at])) {
                at++;
            }
            for (int name = 0; name < NAMES; name++) {
                if (isName(name)) {
                    token = name;
                    return;
                }
            }
            fail(NO_TOKEN);
        }

        private boolean isName(int name) {
            int letters = at - tokenPlace;
            if (letters > WIDTH) {
                return false;
            }
            for (int i = 0; i < WIDTH; i++) {
                int letter = i < letters ? bytes[tokenPlace + i] : ' ';
                if (letter != NAME_TEXTS.charAt(name * WIDTH + i)) {
                    return false;
                }
            }
            return true;
        }

        private void readNumber() {
            number = 0;
            while (at < length && isFigure(bytes[at])) {
                // What is too long is refused below: its number need not be right.
                number = number * 10 + bytes[at] - '0';
                at++;
            }
            if (at - tokenPlace > FIGURES) {
                fail(NO_TOKEN);
            } else {
                token = NUMBER;
            }
        }

        private void readSign() {
            int sign = SIGNS.indexOf((char) bytes[at]);
            if (sign < 0) {
                fail(NO_TOKEN);
            } else {
                token = PLUS + sign;
                at++;
            }
        }
    }

    /** Values of many runs of one rule: their sum, how many, the ends. */
    private static final class Mean {
        private static final int NEVER = -1;

        private int version = NEVER;
        long sum;
        long ways;
        int least;
        int greatest;

        boolean isStale(int now) {
            return version != now;
        }

        void start(int now) {
            version = now;
            sum = 0;
            ways = 0;
            least = 0;
            greatest = 0;
        }

        void add(int value) {
            least = ways == 0 ? value : Math.min(least, value);
            greatest = Math.max(greatest, value);
            sum += value;
            ways++;
        }
    }

    /** The least share among nets, and in how many the share is 1. */
    private static final class Worst {
        int value;
        int best;
        int bits;
        int whole;

        boolean isKnown() {
            return best > 0;
        }

        /** Nets come with growing bits: one that is only as bad stays behind. */
        void add(int itsValue, int itsBest, int itsBits) {
            if (itsBest <= 0) {
                return;
            }
            if (itsValue == itsBest) {
                whole++;
            }
            if (best == 0 || itsValue * best < value * itsBest) {
                value = itsValue;
                best = itsBest;
                bits = itsBits;
            }
        }
    }

    /** All ways the rooms of some posts may be free, each with a number; the last has all of them free. */
    private static final class Rooms {
        final int[] stride = new int[POSTS];
        /** For each way: bits of the posts that have room. */
        final int[] open = new int[STATES_AND_MORE];
        final int[] free = new int[STATES_AND_MORE];
        int states;

        /** One post may be told that has one room more, or NONE. */
        void shape(Board board, int more) {
            states = 1;
            open[0] = 0;
            free[0] = 0;
            for (int p = 0; p < board.posts; p++) {
                stride[p] = states;
                int room = board.room[p] + (p == more ? 1 : 0);
                for (int r = 1; r <= room; r++) {
                    addLayer(p, r);
                }
                states = stride[p] * (room + 1);
            }
        }

        private void addLayer(int p, int r) {
            int from = stride[p] * r;
            for (int s = 0; s < stride[p] && from + s < STATES_AND_MORE; s++) {
                open[from + s] = open[s] | 1 << p;
                free[from + s] = free[s] + r;
            }
        }

        boolean isOpen(int state, int p) {
            return (open[state] >> p & 1) != 0;
        }

        int allFree() {
            return states - 1;
        }
    }

    /** Guests of known numbers paired so that the sum of worths is the greatest. */
    private static final class Plan {
        private static final int NEVER = -1;

        final int[] postOf = new int[GUESTS];
        int sum;
        private final Rooms rooms = new Rooms();
        /** For each guest, for each way the rooms may be free: the greatest sum from that guest on. */
        private final int[] sums = new int[(GUESTS + 1) * STATES_AND_MORE];
        private int version = NEVER;
        private int batch;

        /** One batch of all guests is the best of all. */
        void makeBest(Board board) {
            make(board, GUESTS);
        }

        /** Of the one board that changes by versions alone. */
        void make(Board board, int b) {
            if (version == board.version && batch == b || b < 1) {
                return;
            }
            version = board.version;
            batch = b;
            sum = 0;
            rooms.shape(board, NONE);
            int state = rooms.allFree();
            for (int from = 0; from < board.guests; from += b) {
                int to = Math.min(from + b, board.guests);
                fill(board, from, to);
                sum += sums[from * STATES_AND_MORE + state];
                state = pair(board, from, to, state);
            }
        }

        /** The greatest sum alone, with one room more at a post that may be told. */
        int greatest(Board board, int more) {
            rooms.shape(board, more);
            fill(board, 0, board.guests);
            return sums[rooms.allFree()];
        }

        private void fill(Board board, int from, int to) {
            for (int s = 0; s < rooms.states; s++) {
                sums[to * STATES_AND_MORE + s] = 0;
            }
            for (int g = to - 1; g >= from; g--) {
                for (int s = 0; s < rooms.states; s++) {
                    sums[g * STATES_AND_MORE + s] = greatestFrom(board, g, s);
                }
            }
        }

        private int greatestFrom(Board board, int g, int s) {
            int next = (g + 1) * STATES_AND_MORE + s;
            int greatest = sums[next];
            for (int p = 0; p < board.posts; p++) {
                int worth = board.worths[g * POSTS + p];
                if (worth > 0 && rooms.isOpen(s, p)) {
                    greatest = Math.max(greatest, worth + sums[next - rooms.stride[p]]);
                }
            }
            return greatest;
        }

        /** The first guest gets the least post that keeps the sum, then the next: the rooms behind them. */
        private int pair(Board board, int from, int to, int start) {
            int state = start;
            for (int g = from; g < to; g++) {
                int p = leastPost(board, g, state);
                postOf[g] = p;
                if (p != NONE) {
                    state -= rooms.stride[p];
                }
            }
            return state;
        }

        private int leastPost(Board board, int g, int s) {
            int next = (g + 1) * STATES_AND_MORE + s;
            for (int p = 0; p < board.posts; p++) {
                int worth = board.worths[g * POSTS + p];
                if (worth > 0 && rooms.isOpen(s, p)
                        && worth + sums[next - rooms.stride[p]] == sums[g * STATES_AND_MORE + s]) {
                    return p;
                }
            }
            return NONE;
        }
    }

    /** The most to be hoped for when guests come by chances, for every number of steps. */
    private static final class Hopes {
        private static final int NEVER = -1;

        /** All chances together, to the power of the steps: what the hopes are to be divided by. */
        final long[] scale = new long[STEPS + 1];
        int chances;
        private final Board board;
        private final Rooms rooms = new Rooms();
        /** For each number of steps, for each way the rooms may be free: hope times scale. */
        private final long[] values = new long[(STEPS + 1) * STATES];
        private int version = NEVER;

        Hopes(Board on) {
            board = on;
        }

        void bringUp() {
            if (version == board.version) {
                return;
            }
            version = board.version;
            rooms.shape(board, NONE);
            chances = 0;
            for (int g = 0; g < board.guests; g++) {
                chances += board.chance[g];
            }
            scale[0] = 1;
            for (int n = 1; n <= STEPS; n++) {
                scale[n] = scale[n - 1] * chances;
                fill(n);
            }
        }

        /** With n steps left no more than the other steps' rooms can be taken: the rest is never asked. */
        private void fill(int n) {
            int all = rooms.free[rooms.allFree()];
            for (int s = 0; s < rooms.states; s++) {
                if (all - rooms.free[s] <= STEPS - n) {
                    long sum = 0;
                    for (int g = 0; g < board.guests; g++) {
                        sum += board.chance[g] * greatestFor(g, n, s);
                    }
                    values[n * STATES + s] = sum;
                }
            }
        }

        private long greatestFor(int g, int n, int s) {
            long greatest = values[(n - 1) * STATES + s];
            for (int p = 0; p < board.posts; p++) {
                if (board.worthAt(g, p) > 0 && rooms.isOpen(s, p)) {
                    greatest = Math.max(greatest, byPost(g, n, s, p));
                }
            }
            return greatest;
        }

        private long byPost(int g, int n, int s, int p) {
            return board.worthAt(g, p) * scale[n - 1] + values[(n - 1) * STATES + s - rooms.stride[p]];
        }

        long atStart(int n) {
            return values[n * STATES + rooms.allFree()];
        }

        int firstPost(int g, int n) {
            int start = rooms.allFree();
            long greatest = greatestFor(g, n, start);
            for (int p = 0; p < board.posts; p++) {
                if (board.worthAt(g, p) > 0 && byPost(g, n, start, p) == greatest) {
                    return p;
                }
            }
            return NONE;
        }
    }

    /** A row of cells of one lane, or nothing. */
    private static final class Sheet {
        private static final int BYTES = 0, SHORTS = 1;

        final int[] cells = new int[CELLS];
        int lane = NONE;
        int size;

        boolean isNothing() {
            return lane == NONE;
        }

        boolean hasCell(int i) {
            return i >= 0 && i < size;
        }

        void renew(int itsLane, int n) {
            lane = itsLane;
            size = n;
            Arrays.fill(cells, 0);
        }

        void put(int i, int v) {
            cells[i] = lane == BYTES ? (byte) v : lane == SHORTS ? (short) v : v;
        }
    }
}
