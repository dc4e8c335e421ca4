import java.util.Random;

/** Long runs of calls, drawn from fixed seeds, held against SlowPaired call by call. */
public final class AgainstSlowTest {
    private static final String[] WORDS = {
        "by", "if", "and", "drop", "worth", "left", "room", "rank", "paid", "number", "+", "-", ",", "<", ">", ";",
        "0", "7", "33", "999", "1000", "wort", "x", "bye", "A", ".", "\t", "\u00e9", "\u0000", " "};
    private static final String[] KEYS = {"worth", "left", "room", "rank", "paid", "number"};

    private final Random random;
    private final PairedComing fast = new PairedComing();
    private final SlowPaired slow = new SlowPaired();
    private final StringBuilder log = new StringBuilder();
    /** How large things get in this run: all orders of nine guests among six posts take too long to try. */
    private final int mostPosts, mostGuests;
    private int calls;
    private int wrong;

    private AgainstSlowTest(long seed) {
        random = new Random(seed);
        boolean large = seed % 8 == 0;
        mostPosts = large ? 7 : 1 + random.nextInt(5);
        mostGuests = large ? 10 : random.nextInt(7);
    }

    public static void main(String[] args) {
        int seeds = args.length > 0 ? Integer.parseInt(args[0]) : 400;
        int wrong = 0;
        long calls = 0;
        for (int seed = 0; seed < seeds && wrong < 5; seed++) {
            AgainstSlowTest one = new AgainstSlowTest(seed);
            one.go();
            calls += one.calls;
            if (one.wrong > 0) {
                wrong++;
                System.out.println("seed " + seed + ":\n" + one.log);
            }
        }
        for (int seed = 0; seed < 40 && wrong < 5; seed++) {
            AgainstSlowTest one = new AgainstSlowTest(-8L * seed);
            one.goLarge();
            calls += one.calls;
            if (one.wrong > 0) {
                wrong++;
                System.out.println("large, seed " + seed + ":\n" + one.log);
            }
        }
        System.out.println(calls + " calls held against the slow one, " + wrong + " runs went wrong");
        if (wrong > 0) System.exit(1);
    }

    private void go() {
        due("fault()", fast.fault(), slow.fault());
        int setUp = random.nextInt(3);
        if (setUp > 0) build();
        while (calls < 512 && wrong == 0) oneOf();
    }

    /** As many posts, rooms and guests as there may be, and all that is worked out over all ways rooms may be free. */
    private void goLarge() {
        for (int i = 0; i < 20; i++) post();
        for (int i = 0; i < 9; i++) guest();
        for (int g = 0; g < slow.net.guests.size(); g++) {
            for (int p = 0; p < slow.net.posts.size(); p++) worth(g, p, random.nextInt(4) > 0 ? aWorth() : 0);
            int v = upTo(9);
            due("chance(" + g + ", " + v + ")", fast.chance(g, v), slow.chance(g, v));
        }
        for (int n = 0; n <= 6; n++) {
            for (int what = 0; what < 2; what++) {
                due("hope(" + n + ", " + what + ")", fast.hope(n, what), slow.hope(n, what));
            }
            for (int g = 0; g < 9; g++) due("hopeFor(" + g + ", " + n + ")", fast.hopeFor(g, n), slow.hopeFor(g, n));
        }
        for (int p = 0; p < slow.net.posts.size(); p++) due("price(" + p + ")", fast.price(p), slow.price(p));
        for (int g = 0; g < 9; g++) due("bestOf(" + g + ")", fast.bestOf(g), slow.bestOf(g));
        for (int b = 1; b <= 9; b++) {
            due("batch(" + b + ", 0)", fast.batch(b, 0), slow.batch(b, 0));
            for (int g = 0; g < 9; g++) {
                int what = 10 + g;
                due("batch(" + b + ", " + what + ")", fast.batch(b, what), slow.batch(b, what));
            }
        }
    }

    private void due(String call, long got, long want) {
        calls++;
        log.append(call).append(" -> ").append(got).append('\n');
        if (got != want) {
            wrong++;
            log.append("   but due is ").append(want).append('\n');
        }
    }

    private int upTo(int n) { return random.nextInt(n + 1); }

    /** Mostly from 0 to n, at times just outside, at times far off. */
    private int near(int n) {
        int dice = random.nextInt(60);
        if (dice == 0) return -1;
        if (dice == 1) return n + 1;
        if (dice == 2) return random.nextInt();
        if (dice == 3) return random.nextBoolean() ? Integer.MIN_VALUE : Integer.MAX_VALUE;
        return upTo(Math.max(0, n));
    }

    private int aPost() { return near(slow.net.posts.size() - 1); }
    private int aGuest() { return near(slow.net.guests.size() - 1); }
    private int aRule() { return near(slow.rules.size() - 1); }

    private int what(int most, int each) {
        return each > 0 && random.nextInt(2) == 0 ? 10 + near(each - 1) : near(most);
    }

    private void build() {
        for (int i = 0; i < mostPosts; i++) post();
        for (int i = 0; i < mostGuests; i++) guest();
        for (int g = 0; g < slow.net.guests.size(); g++) {
            for (int p = 0; p < slow.net.posts.size(); p++) {
                if (random.nextInt(4) > 0) worth(g, p, aWorth());
            }
        }
        for (int i = upTo(3); i >= 0; i--) tellRule();
    }

    private int aWorth() {
        int dice = random.nextInt(4);
        return dice == 0 ? upTo(99) : dice == 1 ? upTo(3) : upTo(12);
    }

    private void post() {
        if (slow.net.posts.size() >= mostPosts && random.nextInt(20) > 0 && mostPosts < 7) return;
        int room = 1 + near(2), rank = random.nextBoolean() ? upTo(4) : near(99);
        int budget = random.nextInt(3) == 0 ? 1 + near(30) : random.nextInt(3) == 0 ? 1 + near(998) : 999;
        if (mostPosts == 7 && room > 2) room = 1;
        due("post(" + room + ", " + rank + ", " + budget + ")", fast.post(room, rank, budget),
            slow.post(room, rank, budget));
    }

    private void guest() {
        if (slow.net.guests.size() >= mostGuests && mostGuests < 10) return;
        due("guest()", fast.guest(), slow.guest());
    }

    private void worth(int g, int p, int v) {
        due("worth(" + g + ", " + p + ", " + v + ")", fast.worth(g, p, v), slow.worth(g, p, v));
    }

    private String aText() {
        StringBuilder text = new StringBuilder("by");
        int keys = 1 + random.nextInt(random.nextInt(4) == 0 ? 7 : 3);
        int first = random.nextInt(6);
        for (int i = 0; i < keys; i++) {
            text.append(i > 0 ? blank() + "," : "").append(blank()).append(random.nextBoolean() ? "+" : "-");
            text.append(blank()).append(KEYS[random.nextInt(25) == 0 ? upTo(5) : (first + i) % 6]);
        }
        int tests = random.nextInt(3) > 0 ? 0 : 1 + random.nextInt(5);
        for (int i = 0; i < tests; i++) {
            text.append(i == 0 ? " if " : " and ").append(KEYS[upTo(5)]).append(blank());
            text.append(random.nextBoolean() ? "<" : ">").append(blank()).append(random.nextInt(8) == 0 ? upTo(1100) : upTo(20));
        }
        if (random.nextInt(3) == 0) text.append(" drop");
        return text.append(blank()).append(';').append(blank()).toString();
    }

    private String blank() {
        int dice = random.nextInt(6);
        return dice == 0 ? " " : dice == 1 ? "  " : "";
    }

    private String spoilt(String text) {
        StringBuilder s = new StringBuilder(text);
        int at = upTo(s.length());
        int dice = random.nextInt(4);
        if (dice == 0) s.setLength(at);
        else if (dice == 1) s.insert(at, WORDS[random.nextInt(WORDS.length)]);
        else if (dice == 2) s.insert(at, " " + WORDS[random.nextInt(WORDS.length)] + " ");
        else if (at < s.length()) s.deleteCharAt(at);
        return s.toString();
    }

    private String anyText() {
        StringBuilder s = new StringBuilder();
        for (int i = upTo(12); i > 0; i--) s.append(WORDS[random.nextInt(WORDS.length)]).append(blank());
        return s.toString();
    }

    private void tellRule() {
        int dice = random.nextInt(8);
        String text = dice == 0 ? anyText() : dice < 4 ? spoilt(aText()) : aText();
        if (text.length() > 160) text = text.substring(0, 160);
        if (slow.tape.length() > 0) { due("end(0)", fast.end(0), slow.end(0)); }
        for (int i = 0; i < text.length(); i += 8) {
            long v = 0;
            for (int j = i; j < i + 8; j++) v = v << 8 | (j < text.length() ? text.charAt(j) : 32);
            due("feed(" + v + ")", fast.feed(v), slow.feed(v));
        }
        int n = text.length();
        due("end(" + n + ")", fast.end(n), slow.end(n));
        due("rule() of '" + text + "'", fast.rule(), slow.rule());
        due("fault()", fast.fault(), slow.fault());
        int r = slow.rules.size() - 1;
        for (int what : new int[] {0, 1, 2, 10, 11, 12, 13, 14, 15, 16}) {
            if (random.nextInt(3) == 0) due("ruleOf(" + r + ", " + what + ")", fast.ruleOf(r, what), slow.ruleOf(r, what));
        }
    }

    private int anOrder() {
        int n = slow.net.guests.size();
        java.util.List<Integer> all = SlowPaired.numbers(n);
        java.util.Collections.shuffle(all, random);
        int order = 0;
        for (int g : all) order = order * 10 + g;
        int dice = random.nextInt(12);
        return dice == 0 ? order + 1 : dice == 1 ? random.nextInt() : dice == 2 ? order / 10 : dice == 3 ? order * 10 : order;
    }

    private long prices() {
        int dice = random.nextInt(12);
        if (dice == 0) return random.nextLong();
        if (dice == 1) return -upTo(3);
        long v = 0;
        int n = slow.net.posts.size() + (dice == 2 ? 1 : 0);
        for (int p = 0; p < n; p++) v = v * 100 + (random.nextBoolean() ? upTo(12) : upTo(99));
        return v;
    }

    private void oneOf() {
        int dice = random.nextInt(100);
        if (dice < 8) nets();
        else if (dice < 30) markets();
        else if (dice < 45) sheets();
        else if (dice < 62) rulesAndRuns();
        else if (dice < 78) bests();
        else if (dice < 88) means();
        else tells();
    }

    private void nets() {
        switch (random.nextInt(6)) {
            case 0 -> post();
            case 1 -> guest();
            case 2 -> worth(aGuest(), aPost(), near(99));
            case 3 -> worth(aGuest(), aPost(), aWorth());
            case 4 -> {
                int g = aGuest(), v = near(9);
                due("chance(" + g + ", " + v + ")", fast.chance(g, v), slow.chance(g, v));
            }
            default -> {
                int p = aPost(), v = near(99);
                due("rank(" + p + ", " + v + ")", fast.rank(p, v), slow.rank(p, v));
            }
        }
    }

    private void markets() {
        int g = aGuest(), p = aPost(), r = aRule(), what = what(4, slow.net.guests.size());
        switch (random.nextInt(9)) {
            case 0, 1, 8 -> due("come(" + g + ", " + r + ")", fast.come(g, r), slow.come(g, r));
            case 2 -> due("let(" + g + ", " + p + ")", fast.let(g, p), slow.let(g, p));
            case 3 -> due("leave(" + g + ")", fast.leave(g), slow.leave(g));
            case 4 -> { for (int i = upTo(upTo(18)); i > 0; i--) due("undo()", fast.undo(), slow.undo()); }
            case 5 -> {
                for (int i = 3; i <= 5; i++) due("told(" + p + ", " + i + ")", fast.told(p, i), slow.told(p, i));
            }
            default -> due("market(" + what + ")", fast.market(what), slow.market(what));
        }
    }

    private void sheets() {
        int k = random.nextBoolean() ? 0 : near(3), lane = random.nextBoolean() ? 0 : near(2);
        int cells = slow.net.posts.size() * slow.net.guests.size();
        switch (random.nextInt(4)) {
            case 0 -> {
                int n = random.nextInt(4) == 0 ? near(64) : Math.min(64, cells + upTo(3));
                due("sheet(" + k + ", " + lane + ", " + n + ")", fast.sheet(k, lane, n), slow.sheet(k, lane, n));
            }
            case 1, 2 -> {
                for (int j = upTo(4); j >= 0; j--) {
                    int i = near(Math.max(3, cells)), v = random.nextInt(8) == 0 ? random.nextInt() : near(99);
                    due("lay(" + k + ", " + i + ", " + v + ")", fast.lay(k, i, v), slow.lay(k, i, v));
                }
            }
            default -> {
                int f = random.nextBoolean() ? 0 : near(3);
                due("net(" + k + ", " + lane + ", " + f + ")", fast.net(k, lane, f), slow.net(k, lane, f));
            }
        }
    }

    private void rulesAndRuns() {
        int r = aRule(), what = what(3, slow.net.guests.size()), order = anOrder();
        switch (random.nextInt(8)) {
            case 0 -> { if (random.nextInt(3) == 0 || slow.rules.isEmpty()) tellRule(); }
            case 1 -> {
                long v = random.nextLong();
                due("feed(" + v + ")", fast.feed(v), slow.feed(v));
            }
            case 2 -> {
                int n = near(slow.tape.length());
                due("end(" + n + ")", fast.end(n), slow.end(n));
            }
            case 3, 4 -> due("runBy(" + r + ", " + order + ")", fast.runBy(r, order), slow.runBy(r, order));
            default -> due("run(" + r + ", " + what + ")", fast.run(r, what), slow.run(r, what));
        }
    }

    private void bests() {
        int g = aGuest(), p = aPost(), r = aRule(), over = near(99), under = 1 + near(98);
        int b = 1 + near(8), what = random.nextInt(3) == 0 ? 0 : what(0, slow.net.guests.size());
        long prices = prices();
        switch (random.nextInt(6)) {
            case 0 -> due("best()", fast.best(), slow.best());
            case 1 -> due("bestOf(" + g + ")", fast.bestOf(g), slow.bestOf(g));
            case 2 -> due("price(" + p + ")", fast.price(p), slow.price(p));
            case 3 -> due("cover(" + prices + ")", fast.cover(prices), slow.cover(prices));
            case 4 -> due("share(" + r + ", " + over + ", " + under + ")", fast.share(r, over, under),
                slow.share(r, over, under));
            default -> due("batch(" + b + ", " + what + ")", fast.batch(b, what), slow.batch(b, what));
        }
    }

    private void means() {
        int g = aGuest(), r = aRule(), what = near(1), n = near(6), size = 1 + near(random.nextInt(6) == 0 ? 2 : 1);
        int asked = near(3);
        switch (random.nextInt(6)) {
            case 0 -> due("mean(" + r + ", " + what + ")", fast.mean(r, what), slow.mean(r, what));
            case 1 -> due("ends(" + r + ", " + what + ")", fast.ends(r, what), slow.ends(r, what));
            case 2 -> due("meanOfRanks(" + r + ", " + what + ")", fast.meanOfRanks(r, what), slow.meanOfRanks(r, what));
            case 3 -> due("hope(" + n + ", " + what + ")", fast.hope(n, what), slow.hope(n, what));
            case 4 -> due("hopeFor(" + g + ", " + n + ")", fast.hopeFor(g, n), slow.hopeFor(g, n));
            default -> due("worst(" + r + ", " + size + ", " + asked + ")", fast.worst(r, size, asked),
                slow.worst(r, size, asked));
        }
    }

    private void tells() {
        int p = aPost(), r = aRule(), what = near(6), asked = what(2, 6);
        switch (random.nextInt(3)) {
            case 0 -> due("told(" + p + ", " + what + ")", fast.told(p, what), slow.told(p, what));
            case 1 -> due("ruleOf(" + r + ", " + asked + ")", fast.ruleOf(r, asked), slow.ruleOf(r, asked));
            default -> due("count(" + what + ")", fast.count(what), slow.count(what));
        }
    }
}
