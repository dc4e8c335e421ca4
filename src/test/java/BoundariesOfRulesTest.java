/** Promises 8 to 14, sentence by sentence: the least, the greatest, one beyond, empty, full, refused. */
public final class BoundariesOfRulesTest {
    private static final int BAD = Checks.BAD, FULL = Checks.FULL, NONE = Checks.NONE;
    private static final int LOW = Checks.LOW, HIGH = Checks.HIGH;
    private static final String BLANKS = " ".repeat(160);

    private final Checks c = new Checks();

    private BoundariesOfRulesTest() throws java.io.IOException { }

    public static void main(String[] args) throws Exception {
        BoundariesOfRulesTest t = new BoundariesOfRulesTest();
        t.feed();
        t.feedFull();
        t.end();
        t.rule();
        t.ruleFull();
        t.rulePlaces();
        t.fault();
        t.ruleOf();
        t.run();
        t.runGuests();
        t.runBad();
        t.runBy();
        t.runByBad();
        t.c.wholly(8, 14);
        t.c.finish();
    }

    private void feed() {
        c.at(8, "Eight bytes come behind THE TAPE, the highest first: how many it has.");
        PairedComing x = new PairedComing();
        for (int i = 1; i <= 20; i++) c.due("feed " + i, x.feed(i % 2 == 0 ? Long.MIN_VALUE : -1L), 8 * i);
        PairedComing y = new PairedComing();
        y.feed(0x62792b72616e6b3bL);
        c.due("'by+rank;'", y.rule(), 0);
        y.feed(0x3b6b6e61722b7962L);
        c.due("the lowest first would be a rule", y.rule(), -10);
        // The first byte of all is the highest: 255 there is met at place 0, and 128, and 0.
        y.feed(0xff792b72616e6b3bL);
        c.due("255 first", y.rule(), -10);
        c.due("255 first", y.fault(), 1);
        y.feed(0x80792b72616e6b3bL);
        c.due("128 first", y.rule(), -10);
        y.feed(0x00792b72616e6b3bL);
        c.due("0 first", y.rule(), -10);
        y.feed(0x62792b72616e6bffL);
        c.due("255 last", y.rule(), -17);
        c.due("255 last", y.fault(), 1);
        y.feed(0x62792b72616e6bbbL);
        c.due("';' and 128 is no ';'", y.rule(), -17);
        c.due("behind", y.feed(Checks.eight("by +wort", 0)), 8);
        c.due("behind", y.feed(Checks.eight("h;", 0)), 16);
        c.due("a name across two feeds", y.rule(), 1);
        y.feed(Checks.eight("by -left", 0));
        y.end(3);
        c.due("behind what was kept", y.feed(Checks.eight("+room; ", 0)), 11);
        c.due("'by +room;'", y.rule(), 2);
        c.due("by + room", y.ruleOf(2, 10), 2);
    }

    private void feedFull() {
        c.at(8, "FULL: more than 160.");
        PairedComing x = new PairedComing();
        for (int i = 0; i < 19; i++) x.feed(Checks.eight("", 0));
        c.due("160", x.feed(Checks.eight("", 0)), 160);
        c.due("168", x.feed(0L), FULL);
        c.due("still 160", x.count(5), 160);
        for (int n = 153; n <= 159; n++) {
            PairedComing y = filled(n);
            c.due(n + " and 8", y.feed(-1L), FULL);
            c.due("still " + n, y.count(5), n);
            c.due("refused: none of the bytes came", y.rule(), -10 - n);
            c.due("but blanks", y.fault(), 2);
        }
        c.due("152 and 8", filled(152).feed(0L), 160);
        c.due("151 and 8", filled(151).feed(0L), 159);
    }

    /** A tape with so many blanks. */
    private static PairedComing filled(int n) {
        PairedComing x = new PairedComing();
        Checks.feedText(x, BLANKS.substring(0, n));
        return x;
    }

    private void end() {
        c.at(9, "THE TAPE keeps its first n bytes: how many it had.");
        PairedComing x = new PairedComing();
        c.due("none of none", x.end(0), 0);
        Checks.feedText(x, "by+rank;#######");
        c.due("15 of 15", x.end(15), 15);
        c.due("8 of 15", x.end(8), 15);
        c.due("8 it has", x.count(5), 8);
        c.due("the first ones", x.rule(), 0);
        Checks.feedText(x, "by+rank;");
        c.due("none of 8", x.end(0), 8);
        c.due("empty", x.count(5), 0);
        c.due("what is cut off is gone", x.rule(), -10);
        c.due("all of 160", filled(160).end(160), 160);
        c.due("none of 160", filled(160).end(0), 160);
        c.at(9, "BAD.");
        PairedComing y = filled(8);
        for (int n : new int[] {LOW, -1, 9, 160, 161, HIGH}) c.due("keep " + n + " of 8", y.end(n), BAD);
        c.due("refused: still 8", y.count(5), 8);
        c.due("161 of 160", filled(160).end(161), BAD);
        c.due("1 of none", new PairedComing().end(1), BAD);
        c.due("-1 of none", new PairedComing().end(-1), BAD);
    }

    private void rule() {
        c.at(10, "THE TAPE (empty then) tells a RULE: its number.");
        PairedComing x = new PairedComing();
        c.due("the shortest", Checks.tell(x, "by+left;"), 0);
        c.due("empty", x.count(5), 0);
        c.due("empty: nothing is told again", x.rule(), -10);
        String long160 = "by +worth,-left,+room,-rank,+paid,-number if worth>0 and left<999 and room>0 and rank<999 drop";
        String whole = long160 + BLANKS.substring(0, 159 - long160.length()) + ";";
        c.due("160 bytes", whole.length(), 160);
        c.due("the longest", Checks.tell(x, whole), 1);
        c.due("six keys", x.ruleOf(1, 0), 6);
        c.due("four tests", x.ruleOf(1, 1), 4);
        c.due("it drops", x.ruleOf(1, 2), 1);
        c.due("blanks behind up to 160", Checks.tell(x, "by+left;" + BLANKS.substring(8)), 2);
        c.due("blanks ahead up to 160", Checks.tell(x, BLANKS.substring(8) + "by+left;"), 3);
        c.due("a fault", Checks.tell(x, "by"), -12);
        c.due("empty behind a fault", x.count(5), 0);
        c.due("no number is taken by a fault", Checks.tell(x, "by+left;"), 4);
        c.due("the last", Checks.tell(x, "by -number;"), 5);
        c.due("six", x.count(2), 6);
        c.due("the first stays", x.ruleOf(0, 10), 1);
        c.due("the last", x.ruleOf(5, 10), 15);
        // What a faulty text had told ahead of its fault is not in the next rule.
        PairedComing y = new PairedComing();
        Checks.tell(y, "by +worth,-left if room>1 and rank<3 drop #");
        Checks.tell(y, "by -paid;");
        int[] plain = {1, 0, 0};
        for (int what = 0; what < 3; what++) c.due("behind a faulty one, " + what, y.ruleOf(0, what), plain[what]);
        c.due("behind a faulty one, key", y.ruleOf(0, 10), 14);
    }

    private void ruleFull() {
        c.at(10, "FULL (THE TAPE stays)");
        PairedComing x = new PairedComing();
        for (int r = 0; r < 6; r++) c.due("rule " + r, Checks.tell(x, "by+left;"), r);
        c.due("an empty tape", x.rule(), FULL);
        Checks.feedText(x, "by -room;");
        c.due("the seventh", x.rule(), FULL);
        c.due("the tape stays", x.count(5), 9);
        c.due("and again", x.rule(), FULL);
        c.due("still six", x.count(2), 6);
        c.due("no rule 6", x.ruleOf(6, 0), BAD);
        c.due("it can be fed", x.feed(0L), 17);
        x.end(1);
        c.due("a faulty one is full, too", x.rule(), FULL);
        c.due("the sixth stays", x.ruleOf(5, 10), 1);
    }

    private void rulePlaces() {
        c.at(10, "-10 less the place of its FAULT.");
        PairedComing x = new PairedComing();
        c.due("nothing: the length", x.rule(), -10);
        c.due("place 0", Checks.tell(x, "#"), -10);
        c.due("place 1", Checks.tell(x, " #"), -11);
        c.due("160 blanks: the length", Checks.tell(x, BLANKS), -170);
        c.due("that is the end", x.fault(), 2);
        c.due("place 159", Checks.tell(x, BLANKS.substring(1) + "#"), -169);
        c.due("that is no token", x.fault(), 1);
        String cut = BLANKS.substring(7) + "by+left";
        c.due("all but the ';' in 160", Checks.tell(x, cut), -170);
        c.due("the end", x.fault(), 2);
        c.due("a name up to 160", Checks.tell(x, BLANKS.substring(3) + "byb"), -167);
        c.due("a number up to 160", Checks.tell(x, BLANKS.substring(4) + "1234"), -166);
        c.due("160 letters", Checks.tell(x, "b".repeat(160)), -10);
        c.due("160 figures", Checks.tell(x, "1".repeat(160)), -10);
        c.due("160 figures", x.fault(), 1);
        c.due("none came", x.count(2), 0);
    }

    private void fault() {
        c.at(11, "The FAULT of the latest rule() that was not FULL; 0.");
        PairedComing x = new PairedComing();
        c.due("no rule() yet", x.fault(), 0);
        x.feed(0L);
        c.due("a tape alone", x.fault(), 0);
        String[] texts = {"x", "by", "by+left,-left;",
            "by+left if left>0 and left>0 and left>0 and left>0 and left>0;", "by+left;;"};
        for (int i = 0; i < 5; i++) {
            Checks.tell(x, texts[i]);
            c.due("fault " + (i + 1), x.fault(), i + 1);
            c.due("asked again", x.fault(), i + 1);
        }
        Checks.tell(x, "by+left;");
        c.due("0 behind a rule", x.fault(), 0);
        for (int r = 1; r < 5; r++) Checks.tell(x, "by+left;");
        Checks.tell(x, "by+left;;");
        c.due("5", x.fault(), 5);
        x.feed(0L);
        x.end(0);
        c.due("the tape does not change it", x.fault(), 5);
        Checks.tell(x, "by+left;");
        c.due("0 behind the sixth", x.fault(), 0);
        c.due("full", Checks.tell(x, "x"), FULL);
        c.due("full is not asked", x.fault(), 0);
    }

    private void ruleOf() {
        PairedComing x = new PairedComing();
        Checks.tell(x, "by +worth;");
        Checks.tell(x, "by -worth,-left,-room,-rank,-paid,-number if worth<0 and left<1 and room<2 and rank<999 drop;");
        Checks.tell(x, "by +number,+paid,+rank if number>1;");
        c.at(12, "Of a RULE: 0 how many keys");
        int[] keys = {1, 6, 3};
        for (int r = 0; r < 3; r++) c.due("rule " + r, x.ruleOf(r, 0), keys[r]);
        c.at(12, "1 how many tests");
        int[] tests = {0, 4, 1};
        for (int r = 0; r < 3; r++) c.due("rule " + r, x.ruleOf(r, 1), tests[r]);
        c.at(12, "2 whether it drops");
        int[] drops = {0, 1, 0};
        for (int r = 0; r < 3; r++) c.due("rule " + r, x.ruleOf(r, 2), drops[r]);
        c.at(12, "10 and i: KEY i (0 worth, 1 left, 2 room, 3 rank, 4 paid, 5 number; 10 more, if it is -)");
        for (int i = 0; i < 6; i++) c.due("key " + i, x.ruleOf(1, 10 + i), 10 + i);
        c.due("+worth", x.ruleOf(0, 10), 0);
        for (int i = 0; i < 3; i++) c.due("key " + i, x.ruleOf(2, 10 + i), 5 - i);
        c.at(12, "BAD.");
        c.due("key 1 of one", x.ruleOf(0, 11), BAD);
        c.due("key 3 of three", x.ruleOf(2, 13), BAD);
        c.due("key 6 of six", x.ruleOf(1, 16), BAD);
        c.due("what 3", x.ruleOf(1, 3), BAD);
        c.due("what 9", x.ruleOf(1, 9), BAD);
        for (int what : Checks.FAR) c.due("what " + what, x.ruleOf(1, what), BAD);
        for (int r : new int[] {LOW, -1, 3, 6, HIGH}) c.due("rule " + r, x.ruleOf(r, 0), BAD);
    }

    private void run() {
        PairedComing x = new PairedComing();
        Checks.tell(x, "by +worth drop;");
        c.at(13, "RUN of a RULE by numbers: 0 VALUE");
        c.due("no posts, no guests", x.run(0, 0), 0);
        x.post(1, 0, 10);
        c.due("no guests", x.run(0, 0), 0);
        Checks.guest(x, 3);
        Checks.guest(x, 5);
        Checks.guest(x, 5);
        Checks.guest(x, 9);
        Checks.guest(x, 99);
        // 3 comes, 5 drops it, the next 5 is no more worth, 9 drops 5 and gets the 2 that are left; then all is paid.
        c.due("3 + 5 + 2", x.run(0, 0), 10);
        c.at(13, "1 KEPT");
        c.due("the worth, not what was paid", x.run(0, 1), 9);
        c.at(13, "2 how many GUESTS stand paired");
        c.due("one", x.run(0, 2), 1);
        c.at(13, "3 how many were dropped");
        c.due("two", x.run(0, 3), 2);
        PairedComing most = Checks.posts(3, 3, 3, 1);
        for (int g = 0; g < 9; g++) Checks.guest(most, 99, 99, 99, 99);
        Checks.tell(most, "by +worth drop;");
        int[] wants = {891, 891, 9, 0};
        for (int what = 0; what < 4; what++) c.due("the most, " + what, most.run(0, what), wants[what]);
        PairedComing stairs = Checks.posts(1);
        for (int g = 0; g < 9; g++) Checks.guest(stairs, 91 + g);
        Checks.tell(stairs, "by +worth drop;");
        c.due("the most dropped", stairs.run(0, 3), 8);
        c.due("and all was paid", stairs.run(0, 0), 855);
    }

    private void runGuests() {
        c.at(13, "10 and g: the POST of GUEST g at the end (NONE)");
        PairedComing x = Checks.posts(1, 1, 1, 1, 1, 1);
        for (int g = 0; g < 9; g++) Checks.guest(x, 5, 5, 5, 5, 5, g == 8 ? 6 : 5);
        Checks.tell(x, "by +number drop;");
        // Guests 0 to 5 take posts 5 to 0; 6 and 7 are let go; 8 drops guest 0 at post 5.
        int[] posts = {NONE, 4, 3, 2, 1, 0, NONE, NONE, 5};
        for (int g = 0; g < 9; g++) c.due("guest " + g, x.run(0, 10 + g), posts[g]);
        x.let(8, 0);
        for (int g = 0; g < 9; g++) c.due("from nothing taken, guest " + g, x.run(0, 10 + g), posts[g]);
        PairedComing none = new PairedComing();
        Checks.guest(none);
        Checks.tell(none, "by +worth;");
        c.due("no posts", none.run(0, 10), NONE);
    }

    private void runBad() {
        c.at(13, "BAD.");
        PairedComing x = Checks.posts(1);
        Checks.tell(x, "by +worth;");
        c.due("guest 0 of none", x.run(0, 10), BAD);
        Checks.guests(x, 2, 7);
        c.due("guest 1 of two", x.run(0, 11), NONE);
        c.due("guest 2 of two", x.run(0, 12), BAD);
        c.due("what 4", x.run(0, 4), BAD);
        c.due("what 9", x.run(0, 9), BAD);
        for (int what : Checks.FAR) c.due("what " + what, x.run(0, what), BAD);
        for (int r : new int[] {LOW, -1, 1, 6, HIGH}) c.due("rule " + r, x.run(r, 0), BAD);
        Checks.guests(x, 7, 7);
        c.due("guest 8 of nine", x.run(0, 18), NONE);
        c.due("guest 9 of nine", x.run(0, 19), BAD);
    }

    private void runBy() {
        c.at(14, "VALUE of its RUN by another order: digits to the base 10, the first GUEST the highest (each GUEST once).");
        PairedComing x = Checks.posts(1);
        Checks.tell(x, "by +worth;");
        c.due("nobody", x.runBy(0, 0), 0);
        Checks.guest(x, 20);
        c.due("one", x.runBy(0, 0), 20);
        Checks.guest(x, 21);
        c.due("01", x.runBy(0, 1), 20);
        c.due("10", x.runBy(0, 10), 21);
        for (int g = 2; g < 9; g++) Checks.guest(x, 20 + g);
        c.due("012345678", x.runBy(0, 12345678), 20);
        c.due("876543210", x.runBy(0, 876543210), 28);
        c.due("102345678", x.runBy(0, 102345678), 21);
        x.let(0, 0);
        c.due("from nothing taken", x.runBy(0, 876543210), 28);
        PairedComing spent = new PairedComing();
        spent.post(1, 0, 12);
        Checks.guest(spent, 5);
        Checks.guest(spent, 9);
        Checks.tell(spent, "by +worth drop;");
        c.due("value, not kept: 5 and the 7 left", spent.runBy(0, 1), 12);
        c.due("9 alone", spent.runBy(0, 10), 9);
    }

    private void runByBad() {
        c.at(14, "BAD: also it is no such order.");
        PairedComing x = Checks.posts(1);
        Checks.tell(x, "by +worth;");
        c.due("nobody, but a digit", x.runBy(0, 1), BAD);
        Checks.guest(x, 4);
        c.due("one, but a digit more", x.runBy(0, 10), BAD);
        c.due("one, but another", x.runBy(0, 1), BAD);
        for (int order : new int[] {-1, -10, LOW, HIGH}) c.due("one, order " + order, x.runBy(0, order), BAD);
        Checks.guests(x, 2, 4);
        c.due("012 is one", x.runBy(0, 12), 4);
        for (int order : new int[] {LOW, -210, -12, -1, 0, 1, 2, 11, 13, 112, 122, 202, 211, 213, 310, 1012, 1210,
                10210, HIGH}) {
            c.due("order " + order, x.runBy(0, order), BAD);
        }
        for (int r : new int[] {LOW, -1, 1, 6, HIGH}) c.due("rule " + r, x.runBy(r, 12), BAD);
        Checks.guests(x, 6, 4);
        // Nine guests: no digit may be 9, none may be there twice, ten digits are one too many.
        c.due("9 is no guest", x.runBy(0, 987654321), BAD);
        c.due("1 twice, 0 never", x.runBy(0, 876543211), BAD);
        c.due("ten digits", x.runBy(0, 1876543210), BAD);
        c.due("eight digits are nine with a 0", x.runBy(0, 87654321), 4);
        c.due("eight digits with a 0 of their own", x.runBy(0, 87654320), BAD);
    }
}
