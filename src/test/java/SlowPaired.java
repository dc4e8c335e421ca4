import java.math.BigInteger;
import java.util.ArrayList;
import java.util.HashMap;
import java.util.List;
import java.util.Map;

/**
 * The document said over again in the slowest plain way, to hold PairedComing against.
 * It keeps no derived state: the market is played anew from its acts for each question,
 * the best is sought among all pairings, means go through all orders one by one.
 */
final class SlowPaired {
    static final int BAD = -1, STATE = -2, FULL = -3, NONE = -4;
    static final List<String> KEYS = List.of("worth", "left", "room", "rank", "paid", "number");

    static final class Post {
        int room, rank, budget;
        Post(int room, int rank, int budget) { this.room = room; this.rank = rank; this.budget = budget; }
    }

    static final class Guest {
        int chance = 1;
        int[] worth = new int[6];
    }

    static final class Text {
        List<Integer> keys = new ArrayList<>();
        List<int[]> tests = new ArrayList<>();
        boolean drops;
    }

    static final class Net {
        List<Post> posts = new ArrayList<>();
        List<Guest> guests = new ArrayList<>();
        int worth(int g, int p) { return guests.get(g).worth[p]; }
    }

    /** One act of the market: a guest by a rule (rule not null), by hand (post), or gone. */
    record Act(char kind, int guest, int post, Text rule) { }

    /** What stands when some acts have been played. */
    static final class Play {
        final Net net;
        final List<List<Integer>> holds = new ArrayList<>();
        final int[] paid = new int[6];
        final List<Integer> came = new ArrayList<>();
        int drops;

        Play(Net net) {
            this.net = net;
            for (int i = 0; i < 6; i++) holds.add(new ArrayList<>());
        }

        int key(int kind, int g, int p) {
            Post post = net.posts.get(p);
            int free = post.room - holds.get(p).size();
            return switch (KEYS.get(kind)) {
                case "worth" -> net.worth(g, p);
                case "left" -> Math.floorDiv(100 * free, post.room);
                case "room" -> free;
                case "rank" -> post.rank;
                case "paid" -> paid[p];
                default -> p;
            };
        }

        /** The held guest of the least worth, the latest that came of several. */
        int weakest(int p) {
            int out = NONE;
            for (int g : came) {
                if (holds.get(p).contains(g) && (out == NONE || net.worth(g, p) <= net.worth(out, p))) out = g;
            }
            return out;
        }

        boolean had(int g, int p, Text rule) {
            Post post = net.posts.get(p);
            if (net.worth(g, p) == 0 || paid[p] >= post.budget) return false;
            if (holds.get(p).size() >= post.room) {
                if (!rule.drops || net.worth(weakest(p), p) >= net.worth(g, p)) return false;
            }
            for (int[] t : rule.tests) {
                int k = key(t[0], g, p);
                if (t[1] == '<' && !(k < t[2])) return false;
                if (t[1] == '>' && !(k > t[2])) return false;
            }
            return true;
        }

        int come(int g, Text rule) {
            List<Integer> can = new ArrayList<>();
            for (int p = 0; p < net.posts.size(); p++) if (had(g, p, rule)) can.add(p);
            for (int key : rule.keys) {
                int sign = key >= 10 ? -1 : 1;
                int top = can.stream().mapToInt(p -> sign * key(key % 10, g, p)).max().orElse(0);
                can.removeIf(p -> sign * key(key % 10, g, p) != top);
            }
            int chosen = can.isEmpty() ? NONE : can.get(0);
            if (chosen != NONE) {
                if (holds.get(chosen).size() >= net.posts.get(chosen).room) {
                    holds.get(chosen).remove((Integer) weakest(chosen));
                    drops++;
                }
                take(g, chosen);
            }
            came.add(g);
            return chosen;
        }

        int take(int g, int p) {
            int pays = Math.min(net.worth(g, p), net.posts.get(p).budget - paid[p]);
            paid[p] += pays;
            holds.get(p).add(g);
            return pays;
        }

        void play(Act a) {
            if (a.kind() == 'c') come(a.guest(), a.rule());
            if (a.kind() == 'l') { take(a.guest(), a.post()); came.add(a.guest()); }
            if (a.kind() == 'g') holds.get(a.post()).remove((Integer) a.guest());
        }

        int postOf(int g) {
            for (int p = 0; p < 6; p++) if (holds.get(p).contains(g)) return p;
            return NONE;
        }

        int value() {
            int sum = 0;
            for (int x : paid) sum += x;
            return sum;
        }

        int kept() {
            int sum = 0;
            for (int p = 0; p < 6; p++) for (int g : holds.get(p)) sum += net.worth(g, p);
            return sum;
        }

        int paired() {
            int n = 0;
            for (List<Integer> h : holds) n += h.size();
            return n;
        }
    }

    final Net net = new Net();
    final List<Text> rules = new ArrayList<>();
    final List<Act> acts = new ArrayList<>();
    final Object[] sheets = new Object[4];
    String tape = "";
    int fault;

    Play now() {
        Play play = new Play(net);
        for (Act a : acts) play.play(a);
        return play;
    }

    boolean in(int v, int a, int b) { return v >= a && v <= b; }
    boolean noPost(int p) { return !in(p, 0, net.posts.size() - 1); }
    boolean noGuest(int g) { return !in(g, 0, net.guests.size() - 1); }
    boolean noRule(int r) { return !in(r, 0, rules.size() - 1); }
    boolean noEach(int what, int n) { return !in(what, 10, 9 + n); }
    int rooms() { return net.posts.stream().mapToInt(p -> p.room).sum(); }

    int post(int room, int rank, int budget) {
        if (!in(room, 1, 3) || !in(rank, 0, 99) || !in(budget, 1, 999)) return BAD;
        if (!now().came.isEmpty()) return STATE;
        if (net.posts.size() == 6 || rooms() + room > 10) return FULL;
        net.posts.add(new Post(room, rank, budget));
        return net.posts.size() - 1;
    }

    int guest() {
        if (net.guests.size() == 9) return FULL;
        net.guests.add(new Guest());
        return net.guests.size() - 1;
    }

    int worth(int g, int p, int v) {
        if (noGuest(g) || noPost(p) || !in(v, 0, 99)) return BAD;
        if (now().came.contains(g)) return STATE;
        int was = net.worth(g, p);
        net.guests.get(g).worth[p] = v;
        return was;
    }

    int chance(int g, int v) {
        if (noGuest(g) || !in(v, 0, 9)) return BAD;
        int was = net.guests.get(g).chance;
        net.guests.get(g).chance = v;
        return was;
    }

    int rank(int p, int v) {
        if (noPost(p) || !in(v, 0, 99)) return BAD;
        if (!now().came.isEmpty()) return STATE;
        int was = net.posts.get(p).rank;
        net.posts.get(p).rank = v;
        return was;
    }

    int links(int p) { return (int) net.guests.stream().filter(g -> g.worth[p] > 0).count(); }

    int told(int p, int what) {
        if (noPost(p) || !in(what, 0, 6)) return BAD;
        Post post = net.posts.get(p);
        Play play = now();
        int bits = 0;
        for (int g : play.holds.get(p)) bits += 1 << g;
        return new int[] {post.room, post.rank, post.budget, post.room - play.holds.get(p).size(), play.paid[p],
            bits, links(p)}[what];
    }

    int feed(long v) {
        if (tape.length() + 8 > 160) return FULL;
        for (byte b : BigInteger.valueOf(v).add(BigInteger.ONE.shiftLeft(72)).toByteArray()) {
            tape += (char) (b & 255);
        }
        // The sum has ten bytes, of which the last eight are wanted.
        tape = tape.substring(0, tape.length() - 10) + tape.substring(tape.length() - 8);
        return tape.length();
    }

    int end(int n) {
        if (!in(n, 0, tape.length())) return BAD;
        int had = tape.length();
        tape = tape.substring(0, n);
        return had;
    }

    // ---- the text of a rule: all tokens first, then one walk along them by a table of states

    record Token(String kind, String text, int place) { }

    static List<Token> tokens(String s) {
        List<Token> all = new ArrayList<>();
        int i = 0;
        while (true) {
            while (i < s.length() && s.charAt(i) == 32) i++;
            if (i == s.length()) { all.add(new Token("end", "", i)); return all; }
            int j = i;
            String rest = s.substring(i);
            String name = rest.replaceFirst("(?s)^([a-z]*).*$", "$1");
            String number = rest.replaceFirst("(?s)^([0-9]*).*$", "$1");
            if (!name.isEmpty()) {
                j += name.length();
                if (KEYS.contains(name)) all.add(new Token("key", name, i));
                else if (List.of("by", "if", "and", "drop").contains(name)) all.add(new Token(name, name, i));
                else { all.add(new Token("none", name, i)); return all; }
            } else if (!number.isEmpty()) {
                j += number.length();
                if (number.length() > 3) { all.add(new Token("none", number, i)); return all; }
                all.add(new Token("number", number, i));
            } else if ("+-,<>;".indexOf(rest.charAt(0)) >= 0) {
                j++;
                all.add(new Token(rest.substring(0, 1), rest.substring(0, 1), i));
            } else {
                all.add(new Token("none", rest.substring(0, 1), i));
                return all;
            }
            i = j;
        }
    }

    static final Map<String, Map<String, String>> WAYS = new HashMap<>();
    static {
        WAYS.put("start", Map.of("by", "sign"));
        WAYS.put("sign", Map.of("+", "key", "-", "key"));
        WAYS.put("key", Map.of("key", "keyed"));
        WAYS.put("keyed", Map.of(",", "sign", "if", "test", "drop", "dropped", ";", "over"));
        WAYS.put("test", Map.of("key", "compare"));
        WAYS.put("compare", Map.of("<", "number", ">", "number"));
        WAYS.put("number", Map.of("number", "tested"));
        WAYS.put("tested", Map.of("and", "test", "drop", "dropped", ";", "over"));
        WAYS.put("dropped", Map.of(";", "over"));
        WAYS.put("over", Map.of());
    }

    int rule() {
        if (rules.size() == 6) return FULL;
        String s = tape;
        tape = "";
        Text text = new Text();
        String state = "start";
        int sign = 0;
        int[] test = null;
        for (Token t : tokens(s)) {
            if (t.kind().equals("none")) return faulty(1, t);
            if (state.equals("over")) {
                if (t.kind().equals("end")) break;
                return faulty(5, t);
            }
            String next = WAYS.get(state).get(t.kind());
            if (next == null) return faulty(2, t);
            int key = KEYS.indexOf(t.text());
            if (state.equals("sign")) sign = t.text().equals("-") ? 10 : 0;
            if (state.equals("key")) {
                if (text.keys.contains(key) || text.keys.contains(key + 10)) return faulty(3, t);
                text.keys.add(key + sign);
            }
            if (state.equals("test")) {
                if (text.tests.size() == 4) return faulty(4, t);
                test = new int[] {key, 0, 0};
                text.tests.add(test);
            }
            if (state.equals("compare")) test[1] = t.text().charAt(0);
            if (state.equals("number")) test[2] = Integer.parseInt(t.text());
            if (next.equals("dropped")) text.drops = true;
            state = next;
        }
        fault = 0;
        rules.add(text);
        return rules.size() - 1;
    }

    int faulty(int which, Token t) {
        fault = which;
        return -10 - t.place();
    }

    int fault() { return fault; }

    int ruleOf(int r, int what) {
        if (noRule(r)) return BAD;
        Text t = rules.get(r);
        if (what == 0) return t.keys.size();
        if (what == 1) return t.tests.size();
        if (what == 2) return t.drops ? 1 : 0;
        return noEach(what, t.keys.size()) ? BAD : t.keys.get(what - 10);
    }

    static Play runOf(Net net, Text rule, List<Integer> order) {
        Play play = new Play(net);
        for (int g : order) play.come(g, rule);
        return play;
    }

    static List<Integer> numbers(int n) {
        List<Integer> all = new ArrayList<>();
        for (int i = 0; i < n; i++) all.add(i);
        return all;
    }

    int run(int r, int what) {
        if (noRule(r)) return BAD;
        if (!in(what, 0, 3) && noEach(what, net.guests.size())) return BAD;
        Play play = runOf(net, rules.get(r), numbers(net.guests.size()));
        return switch (what) {
            case 0 -> play.value();
            case 1 -> play.kept();
            case 2 -> play.paired();
            case 3 -> play.drops;
            default -> play.postOf(what - 10);
        };
    }

    int runBy(int r, int order) {
        if (noRule(r) || order < 0) return BAD;
        int n = net.guests.size();
        StringBuilder digits = new StringBuilder(order == 0 && n == 0 ? "" : Integer.toString(order));
        while (digits.length() < n) digits.insert(0, '0');
        if (digits.length() > n) return BAD;
        List<Integer> turns = new ArrayList<>();
        for (char c : digits.toString().toCharArray()) {
            int g = c - '0';
            if (g >= n || turns.contains(g)) return BAD;
            turns.add(g);
        }
        return runOf(net, rules.get(r), turns).value();
    }

    // ---- the best: all pairings in the order of their posts, none last; the first of the greatest stays

    static final class Search {
        final Net net;
        final int[] free;
        final int to;
        int[] at;
        int[] found;
        int best = -1;

        Search(Net net, int[] free, int from, int to) {
            this.net = net;
            this.free = free;
            this.to = to;
            at = new int[net.guests.size()];
            go(from, 0);
        }

        void go(int g, int sum) {
            if (g == to) {
                if (sum > best) { best = sum; found = at.clone(); }
                return;
            }
            int most = 0;
            for (int h = g; h < to; h++) {
                int top = 0;
                for (int p = 0; p < net.posts.size(); p++) top = Math.max(top, net.worth(h, p));
                most += top;
            }
            if (sum + most <= best) return;
            for (int p = 0; p < net.posts.size(); p++) {
                if (net.worth(g, p) > 0 && free[p] > 0) {
                    free[p]--;
                    at[g] = p;
                    go(g + 1, sum + net.worth(g, p));
                    free[p]++;
                }
            }
            at[g] = NONE;
            go(g + 1, sum);
        }
    }

    static int[] free(Net net) { return net.posts.stream().mapToInt(p -> p.room).toArray(); }

    static int bestOfNet(Net net) { return new Search(net, free(net), 0, net.guests.size()).best; }

    int best() { return bestOfNet(net); }

    int bestOf(int g) {
        return noGuest(g) ? BAD : new Search(net, free(net), 0, net.guests.size()).found[g];
    }

    int price(int p) {
        if (noPost(p)) return BAD;
        int before = best();
        net.posts.get(p).room++;
        int after = best();
        net.posts.get(p).room--;
        return after - before;
    }

    int cover(long prices) {
        if (prices < 0) return BAD;
        BigInteger rest = BigInteger.valueOf(prices);
        int[] price = new int[6];
        for (int p = 0; p < net.posts.size(); p++) {
            BigInteger[] both = rest.divideAndRemainder(BigInteger.valueOf(100));
            price[p] = both[1].intValue();
            rest = both[0];
        }
        if (rest.signum() != 0) return BAD;
        int sum = 0;
        for (int p = 0; p < net.posts.size(); p++) sum += net.posts.get(p).room * price[p];
        for (int g = 0; g < net.guests.size(); g++) {
            int gain = 0;
            for (int p = 0; p < net.posts.size(); p++) gain = Math.max(gain, net.worth(g, p) - price[p]);
            sum += gain;
        }
        return sum;
    }

    int share(int r, int over, int under) {
        if (noRule(r) || !in(over, 0, 99) || !in(under, 1, 99)) return BAD;
        return run(r, 1) * under >= over * best() ? 1 : 0;
    }

    static List<List<Integer>> orders(List<Integer> of) {
        List<List<Integer>> all = new ArrayList<>();
        if (of.isEmpty()) { all.add(new ArrayList<>()); return all; }
        for (int i = 0; i < of.size(); i++) {
            List<Integer> others = new ArrayList<>(of);
            Integer first = others.remove(i);
            for (List<Integer> rest : orders(others)) { rest.add(0, first); all.add(rest); }
        }
        return all;
    }

    static long part(BigInteger over, BigInteger under, int what) {
        BigInteger common = over.gcd(under);
        return (what == 0 ? over : under).divide(common).longValueExact();
    }

    static long part(long over, long under, int what) {
        return part(BigInteger.valueOf(over), BigInteger.valueOf(under), what);
    }

    long mean(int r, int what) {
        if (noRule(r) || !in(what, 0, 1)) return BAD;
        if (net.guests.size() > 6) return STATE;
        long sum = 0;
        List<List<Integer>> all = orders(numbers(net.guests.size()));
        for (List<Integer> order : all) sum += runOf(net, rules.get(r), order).value();
        return part(sum, all.size(), what);
    }

    int ends(int r, int what) {
        if (noRule(r) || !in(what, 0, 1)) return BAD;
        if (net.guests.size() > 6) return STATE;
        int least = Integer.MAX_VALUE, greatest = Integer.MIN_VALUE;
        for (List<Integer> order : orders(numbers(net.guests.size()))) {
            int value = runOf(net, rules.get(r), order).value();
            least = Math.min(least, value);
            greatest = Math.max(greatest, value);
        }
        return what == 0 ? least : greatest;
    }

    long meanOfRanks(int r, int what) {
        if (noRule(r) || !in(what, 0, 1)) return BAD;
        int n = net.posts.size();
        int[] ranks = net.posts.stream().mapToInt(p -> p.rank).toArray();
        List<List<Integer>> all = orders(numbers(n));
        long sum = 0;
        for (List<Integer> way : all) {
            for (int p = 0; p < n; p++) net.posts.get(p).rank = ranks[way.get(p)];
            sum += runOf(net, rules.get(r), numbers(net.guests.size())).value();
        }
        for (int p = 0; p < n; p++) net.posts.get(p).rank = ranks[p];
        return part(sum, all.size(), what);
    }

    // ---- hope: times the chances' sum to the power of the steps, so that it stays whole

    int chances() { return net.guests.stream().mapToInt(g -> g.chance).sum(); }

    BigInteger hoped(int n, int[] free, Map<String, BigInteger> known) {
        if (n == 0) return BigInteger.ZERO;
        String name = n + java.util.Arrays.toString(free);
        BigInteger sum = known.get(name);
        if (sum != null) return sum;
        sum = BigInteger.ZERO;
        for (int g = 0; g < net.guests.size(); g++) {
            BigInteger top = hoped(n - 1, free, known);
            for (int p = 0; p < net.posts.size(); p++) {
                BigInteger by = byPost(g, p, n, free, known);
                if (by != null) top = top.max(by);
            }
            sum = sum.add(top.multiply(BigInteger.valueOf(net.guests.get(g).chance)));
        }
        known.put(name, sum);
        return sum;
    }

    BigInteger byPost(int g, int p, int n, int[] free, Map<String, BigInteger> known) {
        if (free[p] == 0 || net.worth(g, p) == 0) return null;
        free[p]--;
        BigInteger rest = hoped(n - 1, free, known);
        free[p]++;
        return rest.add(BigInteger.valueOf(chances()).pow(n - 1).multiply(BigInteger.valueOf(net.worth(g, p))));
    }

    long hope(int n, int what) {
        if (!in(n, 0, 6) || !in(what, 0, 1)) return BAD;
        if (chances() == 0) return STATE;
        return part(hoped(n, free(net), new HashMap<>()), BigInteger.valueOf(chances()).pow(n), what);
    }

    int hopeFor(int g, int n) {
        if (noGuest(g) || !in(n, 1, 6)) return BAD;
        if (chances() == 0) return STATE;
        Map<String, BigInteger> known = new HashMap<>();
        int chosen = NONE;
        BigInteger top = hoped(n - 1, free(net), known);
        for (int p = net.posts.size() - 1; p >= 0; p--) {
            BigInteger by = byPost(g, p, n, free(net), known);
            if (by != null && by.compareTo(top) >= 0) { top = by; chosen = p; }
        }
        return chosen;
    }

    int batch(int b, int what) {
        if (!in(b, 1, 9)) return BAD;
        if (what != 0 && noEach(what, net.guests.size())) return BAD;
        int[] free = free(net);
        int sum = 0;
        int[] at = new int[net.guests.size()];
        for (int from = 0; from < at.length; from += b) {
            int to = Math.min(at.length, from + b);
            Search search = new Search(net, free, from, to);
            sum += search.best;
            for (int g = from; g < to; g++) {
                at[g] = search.found[g];
                if (at[g] != NONE) free[at[g]]--;
            }
        }
        return what == 0 ? sum : at[what - 10];
    }

    int worst(int r, int n, int what) {
        if (noRule(r) || !in(n, 1, 3) || !in(what, 0, 3)) return BAD;
        int over = 2, under = 1, at = 0, whole = 0;
        for (int bits = 0; bits < 1 << n * n; bits++) {
            Net small = new Net();
            for (int p = 0; p < n; p++) small.posts.add(new Post(1, p, 999));
            for (int g = 0; g < n; g++) {
                Guest guest = new Guest();
                for (int p = 0; p < n; p++) guest.worth[p] = bits >> n * g + p & 1;
                small.guests.add(guest);
            }
            int best = bestOfNet(small);
            if (best == 0) continue;
            int value = runOf(small, rules.get(r), numbers(n)).value();
            if (value == best) whole++;
            if (value * under < over * best) { over = value; under = best; at = bits; }
        }
        return what == 2 ? at : what == 3 ? whole : (int) part(over, under, what);
    }

    int come(int g, int r) {
        if (noGuest(g) || noRule(r)) return BAD;
        if (now().came.contains(g)) return STATE;
        acts.add(new Act('c', g, NONE, rules.get(r)));
        return now().postOf(g);
    }

    int let(int g, int p) {
        if (noGuest(g) || noPost(p)) return BAD;
        Play play = now();
        Post post = net.posts.get(p);
        if (play.came.contains(g) || net.worth(g, p) == 0 || play.holds.get(p).size() == post.room
            || play.paid[p] == post.budget) return STATE;
        acts.add(new Act('l', g, p, null));
        return now().paid[p] - play.paid[p];
    }

    int leave(int g) {
        if (noGuest(g)) return BAD;
        int p = now().postOf(g);
        if (p == NONE) return STATE;
        acts.add(new Act('g', g, p, null));
        return p;
    }

    int undo() {
        if (acts.isEmpty()) return NONE;
        acts.remove(acts.size() - 1);
        return acts.size();
    }

    int market(int what) {
        if (!in(what, 0, 4) && noEach(what, net.guests.size())) return BAD;
        Play play = now();
        return switch (what) {
            case 0 -> play.value();
            case 1 -> play.kept();
            case 2 -> play.came.size();
            case 3 -> play.paired();
            case 4 -> acts.size();
            default -> play.postOf(what - 10);
        };
    }

    // ---- sheets: true arrays of the machine, whose true faults are asked

    int sheet(int k, int lane, int n) {
        if (!in(k, 0, 3) || !in(lane, 0, 2) || n > 64) return BAD;
        try {
            sheets[k] = lane == 0 ? new byte[n] : lane == 1 ? new short[n] : new int[n];
        } catch (NegativeArraySizeException e) {
            return -14;
        }
        return 1;
    }

    int lay(int k, int i, int v) {
        if (!in(k, 0, 3)) return BAD;
        if (sheets[k] == null) return -11;
        try {
            if (sheets[k] instanceof byte[] row) row[i] = (byte) v;
            else if (sheets[k] instanceof short[] row) row[i] = (short) v;
            else ((int[]) sheets[k])[i] = v;
        } catch (ArrayIndexOutOfBoundsException e) {
            return -12;
        }
        return 1;
    }

    int net(int k, int lane, int f) {
        if (!in(k, 0, 3) || !in(lane, 0, 2)) return BAD;
        if (sheets[k] == null) return -11;
        List<Integer> read = new ArrayList<>();
        try {
            Object row = sheets[k];
            if (lane == 0) row = (byte[]) row;
            if (lane == 1) row = (short[]) row;
            if (lane == 2) row = (int[]) row;
            for (int i = 0; i < net.guests.size() * net.posts.size(); i++) {
                int v = lane == 0 ? ((byte[]) row)[f + i] : lane == 1 ? ((short[]) row)[f + i] : ((int[]) row)[f + i];
                if (!in(v, 0, 99)) return -100 - i;
                read.add(v);
            }
        } catch (ClassCastException e) {
            return -13;
        } catch (ArrayIndexOutOfBoundsException e) {
            return -12;
        }
        if (!now().came.isEmpty()) return STATE;
        int changed = 0;
        for (int i = 0; i < read.size(); i++) {
            int g = i / net.posts.size(), p = i % net.posts.size();
            if (net.worth(g, p) != read.get(i)) changed++;
            net.guests.get(g).worth[p] = read.get(i);
        }
        return changed;
    }

    int count(int what) {
        return switch (what) {
            case 0 -> net.posts.size();
            case 1 -> net.guests.size();
            case 2 -> rules.size();
            case 3 -> numbers(net.posts.size()).stream().mapToInt(this::links).sum();
            case 4 -> rooms();
            case 5 -> tape.length();
            case 6 -> sheets[0] == null ? NONE : java.lang.reflect.Array.getLength(sheets[0]);
            default -> BAD;
        };
    }
}
