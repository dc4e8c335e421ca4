import java.lang.reflect.Method;
import java.lang.reflect.Modifier;
import java.util.ArrayList;
import java.util.Arrays;
import java.util.List;
import java.util.Map;
import java.util.Set;
import java.util.TreeMap;

/**
 * "What is refused changes nothing (but THE TAPE, as told)", and what is only told changes nothing either: every call
 * with many arguments in several states; behind it all that can be seen must be as it is without that call.
 */
public final class RefusedTest {
    private static final Set<String> CHANGING = Set.of("post", "guest", "worth", "chance", "rank", "feed", "end", "rule",
        "come", "let", "leave", "undo", "sheet", "lay", "net");
    private static final int[] MANY = {Integer.MIN_VALUE, -1, 0, 1, 2, 3, 4, 5, 6, 7, 8, 9, 10, 12, 18, 19, 64, 65, 99, 100,
        999, 1000, 12345678, 876543210, Integer.MAX_VALUE};
    private static final int[] FEW = {Integer.MIN_VALUE, -1, 0, 1, 3, 4, 5, 10, 65, 100, Integer.MAX_VALUE};

    private final Map<String, Integer> refusedOf = new TreeMap<>();
    private int tried;
    private int wrong;

    public static void main(String[] args) throws Exception {
        RefusedTest t = new RefusedTest();
        for (int state = 0; state < 4; state++) t.tryAll(state);
        for (String call : CHANGING) {
            if (!t.refusedOf.containsKey(call)) {
                t.wrong++;
                System.out.println(call + " was never refused: nothing is known of it");
            }
        }
        System.out.println(t.tried + " calls refused or told, " + t.wrong + " changed something");
        if (t.wrong > 0) System.exit(1);
    }

    /** An object with nothing, with some things, with all things there may be, and one whose market is played out. */
    private static PairedComing build(int state) {
        PairedComing x = new PairedComing();
        if (state == 1) some(x);
        if (state == 2) most(x);
        if (state == 3) {
            some(x);
            for (int g = 0; g < 4; g++) x.come(g, 0);
            x.leave(3);
            for (int g = 0; g < 4; g++) x.chance(g, 0);
            Checks.tell(x, "by +worth,+worth;");
        }
        return x;
    }

    private static void some(PairedComing x) {
        x.post(1, 4, 11);
        x.post(2, 7, 999);
        Checks.guest(x, 5, 4);
        Checks.guest(x, 6, 6);
        Checks.guest(x, 0, 3);
        Checks.guest(x, 9, 0);
        x.chance(1, 3);
        Checks.tell(x, "by +worth,-rank drop;");
        Checks.tell(x, "by -rank if paid<9;");
        Checks.feedText(x, "by +room;###");
        x.sheet(0, 0, 9);
        x.sheet(2, 2, 9);
        for (int i = 0; i < 9; i++) {
            x.lay(0, i, 3 * i);
            x.lay(2, i, i == 7 ? 100 : 2 * i);
        }
    }

    private static void most(PairedComing x) {
        for (int p = 0; p < 6; p++) x.post(p < 4 ? 2 : 1, 10 * p, 999 - p);
        for (int g = 0; g < 9; g++) Checks.guest(x, 9 - g, 1 + g, 5, 0, g % 3, 99 - g);
        for (int r = 0; r < 6; r++) Checks.tell(x, r == 1 ? "by -rank;" : "by +worth drop;");
        for (int k = 0; k < 4; k++) x.sheet(k, k % 3, 64);
        Checks.feedText(x, "by +room;" + " ".repeat(151));
        x.let(8, 5);
        x.come(0, 0);
    }

    /** All that can be seen of an object; it is used up by that. */
    private static String seen(PairedComing x) {
        StringBuilder s = new StringBuilder();
        int posts = x.count(0), guests = x.count(1), rules = x.count(2), cells = x.count(6);
        for (int what = 0; what <= 6; what++) s.append(x.count(what)).append(' ');
        for (int p = 0; p < posts; p++) for (int what = 0; what <= 6; what++) s.append(x.told(p, what)).append(' ');
        for (int what = 0; what <= 4; what++) s.append(x.market(what)).append(' ');
        for (int r = 0; r < rules; r++) {
            for (int what : new int[] {0, 1, 2, 10, 11}) s.append(x.ruleOf(r, what)).append(' ');
            s.append(x.run(r, 0)).append(' ').append(x.run(r, 1)).append(' ').append(x.worst(r, 2, 2)).append(' ');
        }
        // What takes long is asked of one rule alone.
        s.append(x.mean(0, 0)).append(' ').append(x.ends(0, 1)).append(' ').append(x.meanOfRanks(0, 0)).append(' ');
        s.append("best ").append(x.best()).append(' ').append(x.batch(2, 0)).append(' ').append(x.hope(3, 0));
        for (int g = 0; g < guests; g++) s.append(' ').append(x.bestOf(g)).append(' ').append(x.market(10 + g));
        s.append(" fault ").append(x.fault()).append(" rule ").append(x.rule()).append(' ').append(x.fault());
        s.append(" undone");
        for (int left = x.undo(); left >= 0; left = x.undo()) s.append(' ').append(left).append(' ').append(x.market(0));
        s.append(" worths");
        for (int g = 0; g < guests; g++) {
            for (int p = 0; p < posts; p++) s.append(' ').append(x.worth(g, p, 0));
            s.append(' ').append(x.chance(g, 1));
        }
        s.append(" sheets");
        for (int k = 0; k < 4; k++) {
            for (int lane = 0; lane < 3; lane++) s.append(' ').append(x.net(k, lane, 0));
            s.append(' ').append(x.best()).append(' ').append(x.cover(0));
        }
        return s.append(' ').append(cells).toString();
    }

    private void tryAll(int state) throws Exception {
        String as = seen(build(state));
        for (Method m : PairedComing.class.getDeclaredMethods()) {
            if (!Modifier.isPublic(m.getModifiers())) continue;
            for (Object[] with : arguments(m)) {
                PairedComing x = build(state);
                long answer = ((Number) m.invoke(x, with)).longValue();
                if (!isToStay(m.getName(), answer)) continue;
                tried++;
                if (CHANGING.contains(m.getName())) refusedOf.merge(m.getName(), 1, Integer::sum);
                String then = seen(x);
                if (!then.equals(as)) {
                    wrong++;
                    System.out.println("state " + state + ": " + m.getName() + Arrays.toString(with) + " answered " + answer
                        + " and changed\n " + as + "\nto\n " + then);
                }
            }
        }
    }

    /** A rule that is faulty empties the tape, and one who is let go has come: these are not refused. */
    private static boolean isToStay(String call, long answer) {
        if (!CHANGING.contains(call)) return true;
        if (call.equals("rule")) return answer == PairedComing.FULL;
        if (call.equals("come")) return answer == PairedComing.BAD || answer == PairedComing.STATE;
        return answer < 0;
    }

    private static List<Object[]> arguments(Method m) {
        List<Object[]> all = new ArrayList<>();
        all.add(new Object[0]);
        for (Class<?> type : m.getParameterTypes()) {
            List<Object[]> longer = new ArrayList<>();
            for (Object[] with : all) {
                for (int v : m.getParameterCount() < 3 ? MANY : FEW) {
                    Object[] more = Arrays.copyOf(with, with.length + 1);
                    more[with.length] = type == long.class ? (Object) (long) v : (Object) v;
                    longer.add(more);
                }
            }
            all = longer;
        }
        return all;
    }
}
