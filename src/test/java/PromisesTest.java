/** Each promise of the document by its number: ordinary inputs, the edges it names, wrong inputs; worked out by hand. */
public final class PromisesTest {
    private static final int BAD = -1, STATE = -2, FULL = -3, NONE = -4;
    private static final int LOW = Integer.MIN_VALUE, HIGH = Integer.MAX_VALUE;
    private static int promise;
    private static int checks;
    private static int wrong;

    public static void main(String[] args) {
        promise1(); promise2(); promise3(); promise4(); promise5(); promise6(); promise7();
        promise8(); promise9(); promise10(); promise11(); promise12(); promise13(); promise14();
        promise15(); promise16(); promise17(); promise18(); promise19();
        promise20(); promise21(); promise22(); promise23(); promise24(); promise25(); promise26();
        promise27(); promise28(); promise29(); promise30(); promise31();
        promise32(); promise33(); promise34(); promise35();
        System.out.println(checks + " checks of 35 promises, " + wrong + " wrong");
        if (wrong > 0) System.exit(1);
    }

    private static void due(String what, long got, long want) {
        checks++;
        if (got != want) {
            wrong++;
            System.out.println("promise " + promise + ": " + what + " answered " + got + ", due is " + want);
        }
    }

    private static void feedText(PairedComing x, String text) {
        for (int i = 0; i < text.length(); i += 8) {
            long v = 0;
            for (int j = i; j < i + 8; j++) v = v << 8 | (j < text.length() ? text.charAt(j) : ' ');
            x.feed(v);
        }
        x.end(text.length());
    }

    private static int tell(PairedComing x, String text) {
        feedText(x, text);
        return x.rule();
    }

    /** Posts of the rooms told, rank as their number, with all the budget there may be. */
    private static PairedComing withPosts(int... rooms) {
        PairedComing x = new PairedComing();
        for (int p = 0; p < rooms.length; p++) x.post(rooms[p], p, 999);
        return x;
    }

    private static void addGuest(PairedComing x, int... worths) {
        int g = x.guest();
        for (int p = 0; p < worths.length; p++) x.worth(g, p, worths[p]);
    }

    private static void promise1() {
        promise = 1;
        PairedComing x = new PairedComing();
        for (int what = 0; what <= 5; what++) due("count " + what, x.count(what), 0);
        due("sheet 0", x.count(6), NONE);
        for (int k = 0; k < 4; k++) due("sheet " + k, x.lay(k, 0, 0), -11);
        due("best", x.best(), 0);
        due("acts", x.market(4), 0);
        due("fault", x.fault(), 0);
        due("no post", x.told(0, 0), BAD);
        due("no guest", x.bestOf(0), BAD);
        due("no rule", x.run(0, 0), BAD);
    }

    private static void promise2() {
        promise = 2;
        PairedComing x = new PairedComing();
        due("room 0", x.post(0, 0, 1), BAD);
        due("room 4", x.post(4, 0, 1), BAD);
        due("rank -1", x.post(1, -1, 1), BAD);
        due("rank 100", x.post(1, 100, 1), BAD);
        due("budget 0", x.post(1, 0, 0), BAD);
        due("budget 1000", x.post(1, 0, 1000), BAD);
        due("far off", x.post(LOW, HIGH, LOW), BAD);
        due("least", x.post(1, 0, 1), 0);
        due("most", x.post(3, 99, 999), 1);
        due("third", x.post(3, 0, 999), 2);
        due("fourth", x.post(2, 0, 999), 3);
        due("rooms above 10", x.post(2, 0, 999), FULL);
        due("rooms 10", x.post(1, 0, 999), 4);
        due("no room at all", x.post(1, 0, 999), FULL);
        due("bad ahead of full", x.post(0, 0, 999), BAD);
        PairedComing six = withPosts(1, 1, 1, 1, 1, 1);
        due("the seventh", six.post(1, 0, 1), FULL);
        addGuest(six, 1);
        six.let(0, 0);
        due("state ahead of full", six.post(1, 0, 1), STATE);
        due("bad ahead of state", six.post(4, 0, 1), BAD);
        six.leave(0);
        due("gone, but it has come", six.post(1, 0, 1), STATE);
        six.undo();
        six.undo();
        due("undone", six.post(1, 0, 1), FULL);
    }

    private static void promise3() {
        promise = 3;
        PairedComing x = withPosts(1);
        for (int g = 0; g < 9; g++) due("guest " + g, x.guest(), g);
        due("the tenth", x.guest(), FULL);
        due("links", x.count(3), 0);
        due("guests", x.count(1), 9);
        PairedComing y = withPosts(1);
        addGuest(y, 3);
        y.let(0, 0);
        due("in the market too", y.guest(), 1);
    }

    private static void promise4() {
        promise = 4;
        PairedComing x = withPosts(1, 1);
        x.guest();
        x.guest();
        due("first", x.worth(0, 1, 99), 0);
        due("again", x.worth(0, 1, 7), 99);
        due("other post", x.worth(0, 0, 1), 0);
        due("no link again", x.worth(0, 1, 0), 7);
        due("it was 0", x.worth(0, 1, 5), 0);
        due("links", x.count(3), 2);
        due("worth 100", x.worth(0, 0, 100), BAD);
        due("worth -1", x.worth(0, 0, -1), BAD);
        due("guest 2", x.worth(2, 0, 1), BAD);
        due("guest -1", x.worth(-1, 0, 1), BAD);
        due("post 2", x.worth(0, 2, 1), BAD);
        due("post -1", x.worth(0, -1, 1), BAD);
        x.let(0, 0);
        due("has come", x.worth(0, 1, 1), STATE);
        due("bad ahead of state", x.worth(0, 1, 100), BAD);
        due("another guest", x.worth(1, 1, 4), 0);
        x.leave(0);
        due("has come and gone", x.worth(0, 1, 1), STATE);
    }

    private static void promise5() {
        promise = 5;
        PairedComing x = withPosts(1);
        addGuest(x, 5);
        due("at first", x.chance(0, 9), 1);
        due("then", x.chance(0, 0), 9);
        due("10", x.chance(0, 10), BAD);
        due("-1", x.chance(0, -1), BAD);
        due("guest 1", x.chance(1, 1), BAD);
        due("unchanged", x.chance(0, 2), 0);
        x.let(0, 0);
        due("in the market", x.chance(0, 3), 2);
    }

    private static void promise6() {
        promise = 6;
        PairedComing x = withPosts(1, 2);
        due("was", x.rank(1, 99), 1);
        due("then", x.rank(1, 0), 99);
        due("100", x.rank(1, 100), BAD);
        due("-1", x.rank(1, -1), BAD);
        due("post 2", x.rank(2, 1), BAD);
        addGuest(x, 5);
        x.let(0, 0);
        due("somebody has come", x.rank(1, 5), STATE);
        due("bad ahead of state", x.rank(2, 5), BAD);
        x.undo();
        due("undone", x.rank(1, 5), 0);
    }

    private static void promise7() {
        promise = 7;
        PairedComing x = new PairedComing();
        x.post(2, 7, 9);
        x.post(1, 8, 999);
        addGuest(x, 5, 1);
        addGuest(x, 6, 0);
        addGuest(x, 0, 3);
        int[] before = {2, 7, 9, 2, 0, 0, 2};
        for (int what = 0; what < 7; what++) due("told " + what, x.told(0, what), before[what]);
        x.let(1, 0);
        x.let(0, 0);
        int[] after = {2, 7, 9, 0, 9, 3, 2};
        for (int what = 0; what < 7; what++) due("then told " + what, x.told(0, what), after[what]);
        x.leave(0);
        due("one is gone", x.told(0, 5), 2);
        due("room", x.told(0, 3), 1);
        due("what was paid stays", x.told(0, 4), 9);
        x.let(2, 1);
        due("2 to the number", x.told(1, 5), 4);
        due("what 7", x.told(0, 7), BAD);
        due("what -1", x.told(0, -1), BAD);
        due("post 2", x.told(2, 0), BAD);
    }

    private static void promise8() {
        promise = 8;
        PairedComing x = new PairedComing();
        for (int i = 1; i <= 20; i++) due("feed " + i, x.feed(-1L), 8 * i);
        due("more than 160", x.feed(0L), FULL);
        due("still 160", x.count(5), 160);
        x.end(153);
        due("161 would be", x.feed(0L), FULL);
        x.end(152);
        due("160 again", x.feed(0L), 160);
        PairedComing y = new PairedComing();
        y.feed(0x62792b72616e6b3bL);
        due("the highest first: 'by+rank;'", y.rule(), 0);
        y.feed(0xff792b72616e6b3bL);
        due("byte 255 is no token", y.rule(), -10);
    }

    private static void promise9() {
        promise = 9;
        PairedComing x = new PairedComing();
        due("empty", x.end(0), 0);
        due("1 of 0", x.end(1), BAD);
        x.feed(0L);
        due("all", x.end(8), 8);
        due("some", x.end(3), 8);
        due("more than it has", x.end(4), BAD);
        due("-1", x.end(-1), BAD);
        due("none", x.end(0), 3);
        due("now empty", x.count(5), 0);
    }

    private static void fault(String text, int place, int which) {
        PairedComing x = new PairedComing();
        due("rule '" + text + "'", tell(x, text), -10 - place);
        due("fault of '" + text + "'", x.fault(), which);
        due("the tape is empty", x.count(5), 0);
        due("no rule came", x.count(2), 0);
    }

    private static void promise10() {
        promise = 10;
        PairedComing x = new PairedComing();
        due("plain", tell(x, "by +worth;"), 0);
        due("tape", x.count(5), 0);
        due("as long as may be", tell(x, "by+left if left>1and rank<007drop;"), 1);
        due("blanks", tell(x, "   by   -   number   ;   "), 2);
        fault("", 0, 2);
        fault("   ", 3, 2);
        fault("by  ", 4, 2);
        fault("bye +worth;", 0, 1);
        fault("byby", 0, 1);
        fault("By +worth;", 0, 1);
        fault("if +worth;", 0, 2);
        fault("+worth;", 0, 2);
        fault("by worth;", 3, 2);
        fault("by ++worth;", 4, 2);
        fault("by + 1000", 5, 1);
        fault("by + 100", 5, 2);
        fault("by +worths;", 4, 1);
        fault("by +wor th;", 4, 1);
        fault("by +worthz;", 4, 1);
        fault("by +aworth;", 4, 1);
        fault("by +forth;", 4, 1);
        fault("my +worth;", 0, 1);
        fault("by +worth of left>1;", 10, 1);
        fault("by +worth if >1;", 13, 2);
        fault("by +worth if left 1;", 18, 2);
        fault("by +worth if left<<1;", 18, 2);
        fault("by +worth if left>1 and >2;", 24, 2);
        fault("by +abcdefghijklmnopqrstuvwxyz;", 4, 1);
        fault("by +worth -left;", 10, 2);
        fault("by +worth,-left,+worth;", 17, 3);
        fault("by +worth,-worth#", 11, 3);
        fault("by +worth and left>1;", 10, 2);
        fault("by +worth if left=1;", 17, 1);
        fault("by +worth if left+1;", 17, 2);
        fault("by +worth if left>a;", 18, 1);
        fault("by +worth if left>by;", 18, 2);
        fault("by +worth if left>1234;", 18, 1);
        fault("by +worth if left>1 if left>2;", 20, 2);
        fault("by +worth if left>1,-left;", 19, 2);
        fault("by +worth if left>1 and left>2 and left>3 and left>4 and left", 57, 4);
        fault("by +worth if left>1 and left>2 and left>3 and left>4 and 5", 57, 2);
        fault("by +worth drop drop;", 15, 2);
        fault("by +worth drop", 14, 2);
        fault("by +worth;;", 10, 5);
        fault("by +worth; by", 11, 5);
        fault("by +worth; x", 11, 1);
        fault("by +worth; #", 11, 1);
        fault("by +worth.", 9, 1);
        fault("by\t+worth;", 2, 1);
        due("the same key in tests", tell(x, "by +worth if worth>1 and worth<9;"), 3);
        due("the fifth", tell(x, "by+rank;"), 4);
        due("the sixth", tell(x, "by+rank;"), 5);
        feedText(x, "by");
        due("full", x.rule(), FULL);
        due("the tape stays", x.count(5), 2);
    }

    private static void promise11() {
        promise = 11;
        PairedComing x = new PairedComing();
        due("at first", x.fault(), 0);
        tell(x, "by +worth,+worth;");
        due("3", x.fault(), 3);
        due("still 3", x.fault(), 3);
        tell(x, "by +worth;");
        due("0 again", x.fault(), 0);
        for (int i = 0; i < 5; i++) tell(x, "by +worth;");
        tell(x, "x");
        due("the full one is not asked", x.fault(), 0);
    }

    private static void promise12() {
        promise = 12;
        PairedComing x = new PairedComing();
        tell(x, "by -number,+paid,-rank,+room,-left,+worth if worth>1 and rank<2 drop;");
        tell(x, "by +rank;");
        int[] keys = {15, 4, 13, 2, 11, 0};
        for (int i = 0; i < 6; i++) due("key " + i, x.ruleOf(0, 10 + i), keys[i]);
        due("keys", x.ruleOf(0, 0), 6);
        due("tests", x.ruleOf(0, 1), 2);
        due("drops", x.ruleOf(0, 2), 1);
        due("keys", x.ruleOf(1, 0), 1);
        due("tests", x.ruleOf(1, 1), 0);
        due("drops", x.ruleOf(1, 2), 0);
        due("key 0", x.ruleOf(1, 10), 3);
        for (int what : new int[] {LOW, -1, 3, 9, 11, HIGH}) due("what " + what, x.ruleOf(1, what), BAD);
        due("rule 2", x.ruleOf(2, 0), BAD);
        due("rule -1", x.ruleOf(-1, 0), BAD);
    }

    /** The post that one guest takes by a rule, of three posts that differ in each key. */
    private static void choice(String text, int post) {
        PairedComing x = new PairedComing();
        x.post(3, 4, 999);
        x.post(2, 9, 999);
        x.post(2, 6, 999);
        addGuest(x, 7, 0, 0);
        addGuest(x, 0, 8, 0);
        addGuest(x, 5, 5, 6);
        x.let(0, 0);
        x.let(1, 1);
        tell(x, text);
        // left: 66, 50, 100; room: 2, 1, 2; paid: 7, 8, 0.
        due(text, x.come(2, 0), post);
    }

    private static void promise13() {
        promise = 13;
        choice("by +worth;", 2);
        choice("by -worth;", 0);
        choice("by +left;", 2);
        choice("by -left;", 1);
        choice("by +room;", 0);
        choice("by -room;", 1);
        choice("by +rank;", 1);
        choice("by -rank;", 0);
        choice("by +paid;", 1);
        choice("by -paid;", 2);
        choice("by +number;", 2);
        choice("by -number;", 0);
        choice("by +room,+worth;", 2);
        choice("by -worth,+rank;", 1);
        choice("by +left if left<67;", 0);
        choice("by +left if left<66;", 1);
        choice("by +worth if left>65 and left<100;", 0);
        choice("by +worth if worth<6 and paid>7;", 1);
        choice("by +worth if worth<6 and paid>8;", NONE);
        choice("by +worth if number>0 and number<2;", 1);

        PairedComing x = new PairedComing();
        x.post(2, 0, 20);
        addGuest(x, 5);
        addGuest(x, 5);
        addGuest(x, 5);
        addGuest(x, 6);
        addGuest(x, 9);
        addGuest(x, 9);
        tell(x, "by +worth drop;");
        // 0 and 1 come; 2 is of no more worth; 3 drops 1 (the latest of 0, 1); 4 would drop 0, pays what is left: 4.
        due("value", x.run(0, 0), 20);
        due("kept", x.run(0, 1), 15);
        due("paired", x.run(0, 2), 2);
        due("dropped", x.run(0, 3), 2);
        int[] posts = {NONE, NONE, NONE, 0, 0, NONE};
        for (int g = 0; g < 6; g++) due("guest " + g, x.run(0, 10 + g), posts[g]);
        tell(x, "by +worth;");
        due("without drops", x.run(1, 0), 10);
        due("dropped", x.run(1, 3), 0);
        due("what 4", x.run(0, 4), BAD);
        due("what -1", x.run(0, -1), BAD);
        due("guest 6", x.run(0, 16), BAD);
        due("rule 2", x.run(2, 0), BAD);
        x.let(0, 0);
        due("the market is not asked", x.run(0, 0), 20);
        due("and not changed", x.told(0, 4), 5);

        PairedComing spent = new PairedComing();
        spent.post(2, 0, 5);
        addGuest(spent, 5);
        addGuest(spent, 5);
        addGuest(spent, 9);
        tell(spent, "by +worth drop;");
        due("paid is budget", spent.run(0, 0), 5);
        due("one pair", spent.run(0, 2), 1);
    }

    private static void promise14() {
        promise = 14;
        PairedComing x = withPosts(1);
        tell(x, "by +worth;");
        due("nobody", x.runBy(0, 0), 0);
        due("nobody, but a digit", x.runBy(0, 1), BAD);
        addGuest(x, 4);
        due("one", x.runBy(0, 0), 4);
        due("one, two digits", x.runBy(0, 10), BAD);
        addGuest(x, 6);
        addGuest(x, 8);
        due("012", x.runBy(0, 12), 4);
        due("120", x.runBy(0, 120), 6);
        due("210", x.runBy(0, 210), 8);
        due("twice", x.runBy(0, 11), BAD);
        due("no such guest", x.runBy(0, 312), BAD);
        due("too many digits", x.runBy(0, 1012), BAD);
        due("below 0", x.runBy(0, -12), BAD);
        due("far off", x.runBy(0, LOW), BAD);
        due("far off", x.runBy(0, HIGH), BAD);
        due("rule 1", x.runBy(1, 12), BAD);
        for (int g = 3; g < 9; g++) addGuest(x, 10 + g);
        due("nine", x.runBy(0, 876543210), 18);
        due("nine, 0 first", x.runBy(0, 12345678), 4);
    }

    /** Two posts of one room, guests of worth (5, 4), (5, 0): the first must go to post 1. */
    private static PairedComing crossed() {
        PairedComing x = withPosts(1, 1);
        addGuest(x, 5, 4);
        addGuest(x, 5, 0);
        return x;
    }

    private static void promise15() {
        promise = 15;
        due("crossed", crossed().best(), 9);
        PairedComing x = new PairedComing();
        x.post(2, 0, 1);
        addGuest(x, 50);
        addGuest(x, 60);
        addGuest(x, 70);
        due("budgets are not asked", x.best(), 130);
        x.let(0, 0);
        due("nor is the market", x.best(), 130);
        PairedComing most = withPosts(2, 2, 2, 2, 1, 1);
        for (int g = 0; g < 9; g++) addGuest(most, 99, 99, 99, 99, 99, 99);
        due("the most", most.best(), 891);
        PairedComing tight = withPosts(1, 1, 1, 1, 1, 1);
        for (int g = 0; g < 9; g++) addGuest(tight, 10 + g, 20 + g, 30 + g, 40 + g, 50 + g, 60 + g);
        due("six of nine", tight.best(), 10 + 20 + 30 + 40 + 50 + 60 + 3 + 4 + 5 + 6 + 7 + 8);
    }

    private static void promise16() {
        promise = 16;
        PairedComing x = crossed();
        due("guest 0", x.bestOf(0), 1);
        due("guest 1", x.bestOf(1), 0);
        due("guest 2", x.bestOf(2), BAD);
        due("guest -1", x.bestOf(-1), BAD);
        PairedComing tie = withPosts(1, 1);
        addGuest(tie, 3, 3);
        addGuest(tie, 3, 3);
        addGuest(tie, 3, 3);
        due("the least post", tie.bestOf(0), 0);
        due("the next", tie.bestOf(1), 1);
        due("none behind all", tie.bestOf(2), NONE);
        PairedComing none = withPosts(1);
        addGuest(none, 0);
        due("no link", none.bestOf(0), NONE);
    }

    private static void promise17() {
        promise = 17;
        PairedComing x = crossed();
        due("post 0", x.price(0), 1);
        due("post 1", x.price(1), 0);
        due("post 2", x.price(2), BAD);
        due("post -1", x.price(-1), BAD);
        due("best is as before", x.best(), 9);
        PairedComing full = withPosts(3, 3, 1, 1, 1, 1);
        for (int g = 0; g < 9; g++) addGuest(full, 9, 0, 0, 0, 0, g == 0 ? 99 : 0);
        due("a fourth room", full.price(0), 9);
        due("no use", full.price(1), 0);
        PairedComing wide = withPosts(2, 2, 2, 2, 1, 1);
        for (int g = 0; g < 9; g++) addGuest(wide, 0, 0, 0, 0, 2, 7 + g);
        due("all rooms and one more", wide.price(5), 14);
        due("where there was little", wide.price(4), 2);
    }

    private static void promise18() {
        promise = 18;
        PairedComing x = withPosts(2, 1);
        addGuest(x, 9, 5);
        addGuest(x, 7, 0);
        addGuest(x, 3, 3);
        due("no prices", x.cover(0), 19);
        due("post 0 at 4", x.cover(4), 8 + 5 + 3 + 3);
        due("post 1 at 4", x.cover(400), 4 + 9 + 7 + 3);
        due("both at 99", x.cover(9999), 297);
        due("no third post", x.cover(10000), BAD);
        due("below 0", x.cover(-1), BAD);
        due("far off", x.cover(Long.MIN_VALUE), BAD);
        due("far off", x.cover(Long.MAX_VALUE), BAD);
        due("no posts", new PairedComing().cover(0), 0);
        due("no posts, a price", new PairedComing().cover(1), BAD);
        due("six posts", withPosts(1, 1, 1, 1, 1, 1).cover(999999999999L), 594);
        due("seven prices", withPosts(1, 1, 1, 1, 1, 1).cover(1000000000000L), BAD);
    }

    private static void promise19() {
        promise = 19;
        PairedComing x = crossed();
        tell(x, "by +worth;");
        // KEPT is 5 of 9.
        due("5 by 9", x.share(0, 5, 9), 1);
        due("6 by 9", x.share(0, 6, 9), 0);
        due("0", x.share(0, 0, 1), 1);
        due("99 by 1", x.share(0, 99, 1), 0);
        due("over 100", x.share(0, 100, 99), BAD);
        due("over -1", x.share(0, -1, 99), BAD);
        due("under 0", x.share(0, 1, 0), BAD);
        due("under 100", x.share(0, 1, 100), BAD);
        due("rule 1", x.share(1, 1, 2), BAD);
        PairedComing empty = new PairedComing();
        tell(empty, "by +worth;");
        due("nothing of nothing", empty.share(0, 99, 1), 1);
        PairedComing poor = new PairedComing();
        poor.post(1, 0, 1);
        addGuest(poor, 9);
        tell(poor, "by +worth;");
        due("kept, not value", poor.share(0, 1, 1), 1);
    }

    private static void promise20() {
        promise = 20;
        PairedComing x = crossed();
        tell(x, "by +worth;");
        due("(5 + 9) by 2", x.mean(0, 0), 7);
        due("lowest terms", x.mean(0, 1), 1);
        addGuest(x, 6, 0);
        // 012: 5; 021: 5; 102: 5 + 4; 120: 5 + 4; 201: 6 + 4; 210: 6 + 4.
        due("three", x.mean(0, 0), 8);
        x.worth(0, 1, 3);
        due("after a change", x.mean(0, 0), 22);
        due("after a change", x.mean(0, 1), 3);
        due("what 2", x.mean(0, 2), BAD);
        due("what -1", x.mean(0, -1), BAD);
        due("rule 1", x.mean(1, 0), BAD);
        for (int g = 3; g < 6; g++) x.guest();
        due("six", x.mean(0, 0), 22);
        x.guest();
        due("seven", x.mean(0, 0), STATE);
        due("bad ahead of state", x.mean(0, 2), BAD);
        PairedComing empty = new PairedComing();
        tell(empty, "by +worth;");
        due("nobody", empty.mean(0, 0), 0);
        due("nobody", empty.mean(0, 1), 1);
    }

    private static void promise21() {
        promise = 21;
        PairedComing x = crossed();
        tell(x, "by +worth;");
        due("least", x.ends(0, 0), 5);
        due("greatest", x.ends(0, 1), 9);
        x.worth(1, 0, 2);
        due("least, changed", x.ends(0, 0), 5);
        due("greatest, changed", x.ends(0, 1), 6);
        due("what 2", x.ends(0, 2), BAD);
        due("rule 1", x.ends(1, 0), BAD);
        for (int g = 2; g < 7; g++) x.guest();
        due("seven", x.ends(0, 0), STATE);
        PairedComing empty = new PairedComing();
        tell(empty, "by +worth;");
        due("nobody", empty.ends(0, 0), 0);
    }

    private static void promise22() {
        promise = 22;
        PairedComing x = crossed();
        tell(x, "by -rank;");
        // Ranks 0, 1: guest 0 takes post 0: 5. Ranks 1, 0: guest 0 takes post 1: 9.
        due("numerator", x.meanOfRanks(0, 0), 7);
        due("denominator", x.meanOfRanks(0, 1), 1);
        x.post(1, 0, 999);
        // Ranks 0, 1, 0: post 2 has no links; post 0 is ahead of post 1 in 4 of 6 ways (equal ranks: the least number).
        due("three posts", x.meanOfRanks(0, 0), 19);
        due("three posts", x.meanOfRanks(0, 1), 3);
        due("ranks are as before", x.told(1, 1), 1);
        for (int g = 2; g < 9; g++) x.guest();
        due("nine guests", x.meanOfRanks(0, 1), 3);
        x.let(0, 0);
        due("in the market", x.meanOfRanks(0, 0), 19);
        due("what 2", x.meanOfRanks(0, 2), BAD);
        due("what -1", x.meanOfRanks(0, -1), BAD);
        due("rule 1", x.meanOfRanks(1, 0), BAD);
        PairedComing empty = new PairedComing();
        tell(empty, "by +worth;");
        due("no posts", empty.meanOfRanks(0, 0), 0);
        due("no posts", empty.meanOfRanks(0, 1), 1);
    }

    private static void promise23() {
        promise = 23;
        PairedComing x = withPosts(1);
        due("no guests", x.hope(0, 0), STATE);
        addGuest(x, 4);
        addGuest(x, 1);
        due("0 steps", x.hope(0, 0), 0);
        due("0 steps", x.hope(0, 1), 1);
        due("1 step", x.hope(1, 0), 5);
        due("1 step", x.hope(1, 1), 2);
        // Two steps: guest 1 is let go at first (2.5 to come): (4 + 2.5) / 2.
        due("2 steps", x.hope(2, 0), 13);
        due("2 steps", x.hope(2, 1), 4);
        x.chance(1, 3);
        due("by chances", x.hope(1, 0), 7);
        due("by chances", x.hope(1, 1), 4);
        x.let(0, 0);
        due("the market is not asked", x.hope(1, 0), 7);
        x.chance(0, 0);
        x.chance(1, 0);
        due("all chances 0", x.hope(1, 0), STATE);
        due("bad ahead of state", x.hope(7, 0), BAD);
        due("-1 steps", x.hope(-1, 0), BAD);
        due("what 2", x.hope(1, 2), BAD);
        due("what -1", x.hope(1, -1), BAD);
        PairedComing most = withPosts(3, 3, 3, 1);
        for (int g = 0; g < 9; g++) {
            addGuest(most, 99, 99, 99, 99);
            most.chance(g, 9);
        }
        due("the most", most.hope(6, 0), 594);
        due("the most", most.hope(6, 1), 1);
        most.worth(0, 0, 98);
        most.worth(0, 1, 98);
        most.worth(0, 2, 98);
        most.worth(0, 3, 98);
        due("by nine", most.hope(6, 0), 1780);
        due("by nine", most.hope(6, 1), 3);
    }

    private static void promise24() {
        promise = 24;
        PairedComing x = withPosts(1, 1);
        addGuest(x, 4, 4);
        addGuest(x, 0, 1);
        addGuest(x, 0, 0);
        due("the least of several", x.hopeFor(0, 1), 0);
        due("one step", x.hopeFor(1, 1), 1);
        due("no link", x.hopeFor(2, 1), NONE);
        due("never worth waiting with room left", x.hopeFor(1, 2), 1);
        due("step 0", x.hopeFor(0, 0), BAD);
        due("step 7", x.hopeFor(0, 7), BAD);
        due("guest 3", x.hopeFor(3, 1), BAD);
        PairedComing one = withPosts(1);
        addGuest(one, 4);
        addGuest(one, 2);
        addGuest(one, 0);
        // One step to come hopes for 2: taking 2 is as good, letting go is behind all.
        due("as good", one.hopeFor(1, 2), 0);
        due("two steps to come hope for more", one.hopeFor(1, 3), NONE);
        one.chance(1, 0);
        due("without a chance of its own", one.hopeFor(1, 1), 0);
        one.chance(0, 0);
        one.chance(2, 0);
        due("all chances 0", one.hopeFor(0, 1), STATE);
        due("bad ahead of state", one.hopeFor(0, 7), BAD);
    }

    private static void promise25() {
        promise = 25;
        PairedComing x = crossed();
        addGuest(x, 0, 9);
        due("ones", x.batch(1, 0), 14);
        due("ones, guest 0", x.batch(1, 10), 0);
        due("ones, guest 1", x.batch(1, 11), NONE);
        due("ones, guest 2", x.batch(1, 12), 1);
        due("twos", x.batch(2, 0), 9);
        due("twos, guest 0", x.batch(2, 10), 1);
        due("twos, guest 1", x.batch(2, 11), 0);
        due("twos, guest 2", x.batch(2, 12), NONE);
        due("threes", x.batch(3, 0), 14);
        due("threes, guest 0", x.batch(3, 10), 0);
        due("nines", x.batch(9, 0), 14);
        due("b 0", x.batch(0, 0), BAD);
        due("b 10", x.batch(10, 0), BAD);
        due("what 1", x.batch(1, 1), BAD);
        due("what 9", x.batch(1, 9), BAD);
        due("guest 3", x.batch(1, 13), BAD);
        due("nobody", new PairedComing().batch(4, 0), 0);
        PairedComing rooms = withPosts(2);
        addGuest(rooms, 1);
        addGuest(rooms, 9);
        addGuest(rooms, 9);
        due("what is left of rooms", rooms.batch(1, 0), 10);
        due("best is not a batch of two", rooms.best(), 18);
        due("and a batch of two is asked again", rooms.batch(2, 0), 10);
        rooms.worth(0, 0, 2);
        due("after a change", rooms.batch(2, 0), 11);
    }

    private static void promise26() {
        promise = 26;
        PairedComing x = new PairedComing();
        tell(x, "by +worth;");
        tell(x, "by +rank;");
        tell(x, "by -worth if number<2 and number>0;");
        int[] least = {1, 2, 7, 14};
        for (int what = 0; what < 4; what++) due("first fit, 2, " + what, x.worst(0, 2, what), least[what]);
        // By the greatest rank guest 0 takes post 1: bad if guest 1 has post 1 alone: bits 1 + 2 + 8.
        int[] greatest = {1, 2, 11, 14};
        for (int what = 0; what < 4; what++) due("last fit, 2, " + what, x.worst(1, 2, what), greatest[what]);
        // Post 1 alone may be taken: nothing at bits 1 (guest 0, post 0).
        due("post 1 alone", x.worst(2, 2, 0), 0);
        due("post 1 alone", x.worst(2, 2, 1), 1);
        due("post 1 alone", x.worst(2, 2, 2), 1);
        // Whole are nets whose best is 1 with a link to post 1 that is taken: 2, 3, 8, 12, 10.
        due("post 1 alone", x.worst(2, 2, 3), 5);
        due("size 1", x.worst(2, 1, 3), 0);
        due("size 0", x.worst(0, 0, 0), BAD);
        due("size 4", x.worst(0, 4, 0), BAD);
        due("what 4", x.worst(0, 1, 4), BAD);
        due("what -1", x.worst(0, 1, -1), BAD);
        due("rule 3", x.worst(3, 1, 0), BAD);
        due("posts are as before", x.count(0), 0);
    }

    private static void promise27() {
        promise = 27;
        PairedComing x = new PairedComing();
        x.post(2, 0, 12);
        addGuest(x, 5);
        addGuest(x, 3);
        addGuest(x, 9);
        addGuest(x, 9);
        addGuest(x, 3);
        tell(x, "by +worth drop;");
        tell(x, "by +worth;");
        due("rule 2", x.come(0, 2), BAD);
        due("guest 5", x.come(5, 0), BAD);
        due("guest 0", x.come(0, 0), 0);
        due("again", x.come(0, 0), STATE);
        due("bad ahead of state", x.come(0, 2), BAD);
        due("guest 1", x.come(1, 0), 0);
        due("full, no drop", x.come(2, 1), NONE);
        due("it has come all the same", x.come(2, 0), STATE);
        due("no more worth than the least", x.come(4, 0), NONE);
        due("guest 3 drops guest 1", x.come(3, 0), 0);
        due("guest 1 is dropped", x.market(11), NONE);
        due("the post pays what is left", x.told(0, 4), 12);
        due("holds 0 and 3", x.told(0, 5), 9);
        due("a dropped one has come", x.come(1, 0), STATE);
        PairedComing late = withPosts(2);
        addGuest(late, 3);
        addGuest(late, 3);
        addGuest(late, 4);
        tell(late, "by +worth drop;");
        late.let(1, 0);
        late.let(0, 0);
        late.come(2, 0);
        due("the latest that came goes", late.told(0, 5), 6);
    }

    private static void promise28() {
        promise = 28;
        PairedComing x = new PairedComing();
        x.post(1, 0, 999);
        x.post(3, 0, 8);
        addGuest(x, 5, 5);
        addGuest(x, 6, 6);
        addGuest(x, 7, 7);
        addGuest(x, 0, 0);
        due("guest 4", x.let(4, 0), BAD);
        due("post 2", x.let(0, 2), BAD);
        due("no link", x.let(3, 0), STATE);
        due("pays its worth", x.let(0, 1), 5);
        due("it has come", x.let(0, 0), STATE);
        due("pays what is left", x.let(1, 1), 3);
        due("paid is budget", x.let(2, 1), STATE);
        due("elsewhere", x.let(2, 0), 7);
        x.worth(3, 0, 9);
        due("no room, and none is dropped", x.let(3, 0), STATE);
        due("acts", x.market(4), 3);
    }

    private static void promise29() {
        promise = 29;
        PairedComing x = withPosts(1, 1);
        addGuest(x, 0, 5);
        addGuest(x, 0, 6);
        due("not come", x.leave(0), STATE);
        due("guest 2", x.leave(2), BAD);
        due("guest -1", x.leave(-1), BAD);
        x.let(0, 1);
        due("the post", x.leave(0), 1);
        due("gone", x.leave(0), STATE);
        due("what was paid stays", x.told(1, 4), 5);
        due("room", x.told(1, 3), 1);
        due("it can not come again", x.let(0, 1), STATE);
        due("another can", x.let(1, 1), 6);
        due("paid", x.told(1, 4), 11);
    }

    private static void promise30() {
        promise = 30;
        PairedComing x = withPosts(1);
        addGuest(x, 3);
        addGuest(x, 5);
        addGuest(x, 0);
        tell(x, "by +worth drop;");
        due("nothing", x.undo(), NONE);
        x.come(0, 0);
        x.come(1, 0);
        x.come(2, 0);
        x.leave(1);
        due("the leaving", x.undo(), 3);
        due("holds again", x.told(0, 5), 2);
        due("the one let go", x.undo(), 2);
        due("has not come", x.market(2), 2);
        due("the drop", x.undo(), 1);
        due("the dropped one holds again", x.told(0, 5), 1);
        due("paid is as it was", x.told(0, 4), 3);
        due("room is as it was", x.told(0, 3), 0);
        due("the first", x.undo(), 0);
        due("value", x.market(0), 0);
        due("room", x.told(0, 3), 1);
        due("nothing more", x.undo(), NONE);
        due("worths can change again", x.worth(0, 0, 4), 3);
        for (int g = 3; g < 9; g++) addGuest(x, 20 - g);
        int acts = 0;
        for (int g : new int[] {0, 1, 3, 4, 5, 6, 7, 8}) {
            x.let(g, 0);
            x.leave(g);
            acts += 2;
        }
        x.come(2, 0);
        due("acts", x.market(4), acts + 1);
        for (int i = acts; i >= 0; i--) due("back to " + i, x.undo(), i);
        due("all are undone", x.undo(), NONE);
        due("paid", x.told(0, 4), 0);
    }

    private static void promise31() {
        promise = 31;
        PairedComing x = new PairedComing();
        x.post(1, 0, 999);
        x.post(1, 1, 4);
        addGuest(x, 3, 0);
        addGuest(x, 5, 0);
        addGuest(x, 0, 7);
        addGuest(x, 2, 0);
        addGuest(x, 2, 0);
        tell(x, "by +worth drop;");
        x.come(0, 0);
        x.come(1, 0);
        x.come(2, 0);
        x.come(3, 0);
        int[] wants = {3 + 5 + 4, 5 + 7, 4, 2, 4};
        for (int what = 0; what < 5; what++) due("market " + what, x.market(what), wants[what]);
        int[] posts = {NONE, 0, 1, NONE, NONE};
        for (int g = 0; g < 5; g++) due("guest " + g, x.market(10 + g), posts[g]);
        x.leave(1);
        due("gone", x.market(11), NONE);
        due("value stays", x.market(0), 12);
        due("kept", x.market(1), 7);
        due("acts", x.market(4), 5);
        due("guest 5", x.market(15), BAD);
        due("what 5", x.market(5), BAD);
        due("what 9", x.market(9), BAD);
        due("what -1", x.market(-1), BAD);
        due("far off", x.market(LOW), BAD);
        due("far off", x.market(HIGH), BAD);
    }

    private static void promise32() {
        promise = 32;
        PairedComing x = new PairedComing();
        due("none", x.sheet(0, 0, 0), 1);
        due("0 cells", x.count(6), 0);
        due("64", x.sheet(0, 2, 64), 1);
        due("64 cells", x.count(6), 64);
        due("65", x.sheet(0, 2, 65), BAD);
        due("below 0", x.sheet(0, 2, -1), -14);
        due("far below 0", x.sheet(0, 2, LOW), -14);
        due("bad ahead of the fault", x.sheet(0, 3, -1), BAD);
        due("lane -1", x.sheet(0, -1, 1), BAD);
        due("sheet 4", x.sheet(4, 0, 1), BAD);
        due("sheet -1", x.sheet(-1, 0, 1), BAD);
        due("refused: as before", x.count(6), 64);
        x.post(1, 0, 1);
        x.guest();
        x.lay(0, 0, 7);
        due("laid", x.net(0, 2, 0), 1);
        x.sheet(0, 2, 1);
        due("a new row is of 0", x.net(0, 2, 0), 1);
        due("no link", x.count(3), 0);
    }

    private static void promise33() {
        promise = 33;
        PairedComing x = withPosts(1);
        x.guest();
        due("nothing", x.lay(0, 0, 1), -11);
        due("sheet 4", x.lay(4, 0, 1), BAD);
        due("sheet -1", x.lay(-1, 0, 1), BAD);
        x.sheet(0, 0, 2);
        x.sheet(1, 1, 2);
        x.sheet(2, 2, 2);
        due("cell 1", x.lay(0, 1, 5), 1);
        due("cell 2", x.lay(0, 2, 5), -12);
        due("cell -1", x.lay(0, -1, 5), -12);
        due("far off", x.lay(0, HIGH, 5), -12);
        due("far off", x.lay(0, LOW, 5), -12);
        x.lay(0, 0, 256 + 9);
        x.lay(1, 0, 65536 * 3 + 8);
        x.lay(2, 0, 256 + 7);
        x.net(0, 0, 0);
        due("bytes", x.best(), 9);
        x.net(1, 1, 0);
        due("shorts", x.best(), 8);
        due("ints keep all bits", x.net(2, 2, 0), -100);
        x.lay(0, 0, 128);
        due("128 is below 0", x.net(0, 0, 0), -100);
    }

    private static void promise34() {
        promise = 34;
        PairedComing x = withPosts(1, 1);
        x.guest();
        x.guest();
        x.sheet(1, 2, 6);
        for (int i = 0; i < 6; i++) x.lay(1, i, 10 * i);
        due("sheet 4", x.net(4, 0, 0), BAD);
        due("lane 3", x.net(1, 3, 0), BAD);
        due("lane -1", x.net(0, -1, 0), BAD);
        due("nothing", x.net(0, 2, 0), -11);
        due("another lane", x.net(1, 0, 0), -13);
        due("nothing ahead of another lane", x.net(0, 1, 99), -11);
        due("another lane ahead of the index", x.net(1, 1, 99), -13);
        due("three become others", x.net(1, 2, 0), 3);
        due("guest by guest", x.worth(1, 0, 20), 20);
        due("post by post", x.worth(0, 1, 10), 10);
        due("none", x.net(1, 2, 0), 0);
        due("from cell 2", x.net(1, 2, 2), 4);
        due("beyond the end", x.net(1, 2, 3), -12);
        due("below 0", x.net(1, 2, -1), -12);
        due("far off", x.net(1, 2, HIGH), -12);
        due("far off", x.net(1, 2, LOW), -12);
        x.lay(1, 4, 100);
        due("no worth ahead of the index", x.net(1, 2, 3), -101);
        due("no worth", x.net(1, 2, 2), -102);
        x.lay(1, 4, -1);
        due("no worth below 0", x.net(1, 2, 1), -103);
        due("none changed", x.worth(0, 0, 20), 20);
        x.lay(1, 4, 99);
        due("99 is one", x.net(1, 2, 1), 4);
        x.let(0, 0);
        due("somebody has come", x.net(1, 2, 0), STATE);
        due("a fault is met first", x.net(1, 1, 0), -13);
        due("a fault is met first", x.net(1, 2, 3), -12);
        x.undo();
        due("undone", x.net(1, 2, 1), 0);
        PairedComing empty = new PairedComing();
        empty.sheet(0, 0, 0);
        due("nothing to read", empty.net(0, 0, HIGH), 0);
        due("but a lane", empty.net(0, 1, 0), -13);
    }

    private static void promise35() {
        promise = 35;
        PairedComing x = withPosts(3, 1);
        addGuest(x, 1, 1);
        addGuest(x, 0, 1);
        addGuest(x, 0, 0);
        tell(x, "by+rank;");
        x.feed(1L);
        x.sheet(0, 1, 7);
        int[] wants = {2, 3, 1, 3, 4, 8, 7};
        for (int what = 0; what < 7; what++) due("count " + what, x.count(what), wants[what]);
        due("what 7", x.count(7), BAD);
        due("what -1", x.count(-1), BAD);
        due("nothing", new PairedComing().count(6), NONE);
    }
}
