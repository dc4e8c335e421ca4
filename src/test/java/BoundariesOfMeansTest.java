/** Promises 20 to 26, sentence by sentence: the least, the greatest, one beyond, empty, full, refused. */
public final class BoundariesOfMeansTest {
    private static final int BAD = Checks.BAD, STATE = Checks.STATE, NONE = Checks.NONE;
    private static final int LOW = Checks.LOW, HIGH = Checks.HIGH;
    private static final int[] NO_RULE_BUT_0 = {LOW, -1, 1, 6, HIGH};

    private final Checks c = new Checks();

    private BoundariesOfMeansTest() throws java.io.IOException { }

    public static void main(String[] args) throws Exception {
        BoundariesOfMeansTest t = new BoundariesOfMeansTest();
        t.mean();
        t.meanRefused();
        t.ends();
        t.endsRefused();
        t.meanOfRanks();
        t.equalRanks();
        t.meanOfRanksBad();
        t.hope();
        t.hopeLarge();
        t.hopeRefused();
        t.hopeFor();
        t.hopeForRefused();
        t.batch();
        t.batchTies();
        t.batchBad();
        t.worst();
        t.worstRanks();
        t.worstBad();
        t.c.wholly(20, 26);
        t.c.finish();
    }

    private void fraction(String what, long over, long under, long wantOver, long wantUnder) {
        c.due(what + ", numerator", over, wantOver);
        c.due(what + ", denominator", under, wantUnder);
    }

    /** One post of one room and guests of worth 1 to n, who drop each other. */
    private static PairedComing stairs(int n) {
        PairedComing x = Checks.posts(1);
        for (int g = 0; g < n; g++) Checks.guest(x, g + 1);
        Checks.tell(x, "by +worth drop;");
        Checks.tell(x, "by +worth;");
        return x;
    }

    private void mean() {
        c.at(20, "MEAN: 0 the numerator, 1 the denominator, in lowest terms (above 0).");
        PairedComing none = new PairedComing();
        Checks.tell(none, "by +worth;");
        fraction("no posts, nobody", none.mean(0, 0), none.mean(0, 1), 0, 1);
        PairedComing x = stairs(6);
        // Who comes ahead of all who are worth more is paid: 1/6 + 2/5 + 3/4 + 4/3 + 5/2 + 6.
        fraction("six who drop", x.mean(0, 0), x.mean(0, 1), 223, 20);
        fraction("six, the first stays", x.mean(1, 0), x.mean(1, 1), 7, 2);
        fraction("one", stairs(1).mean(0, 0), stairs(1).mean(0, 1), 1, 1);
        fraction("nobody", stairs(0).mean(0, 0), stairs(0).mean(0, 1), 0, 1);
        // 1/3 + 2/2 + 3.
        fraction("three", stairs(3).mean(0, 0), stairs(3).mean(0, 1), 13, 3);
        Checks.tell(x, "by +worth if worth>6;");
        fraction("0 by all orders", x.mean(2, 0), x.mean(2, 1), 0, 1);
        PairedComing most = Checks.posts(3, 3);
        Checks.guests(most, 6, 99, 99);
        Checks.tell(most, "by +worth;");
        fraction("the most", most.mean(0, 0), most.mean(0, 1), 594, 1);
        x.let(0, 0);
        fraction("the market is not asked", x.mean(0, 0), x.mean(0, 1), 223, 20);
        PairedComing spent = new PairedComing();
        spent.post(1, 0, 5);
        Checks.guest(spent, 4);
        Checks.guest(spent, 9);
        Checks.tell(spent, "by +worth drop;");
        // 01: 4 and the 1 left; 10: 5 of 9.
        fraction("budgets are asked", spent.mean(0, 0), spent.mean(0, 1), 5, 1);
        spent.chance(0, 9);
        fraction("chances are not", spent.mean(0, 0), spent.mean(0, 1), 5, 1);
        spent.worth(1, 0, 2);
        fraction("a change is seen: 4 by 01, 5 by 10", spent.mean(0, 0), spent.mean(0, 1), 9, 2);
        spent.worth(1, 0, 9);
        spent.chance(0, 1);
        fraction("a worth and a chance changed", spent.mean(0, 0), spent.mean(0, 1), 5, 1);
        spent.worth(1, 0, 2);
        spent.rank(0, 1);
        fraction("a worth and a rank changed", spent.mean(0, 0), spent.mean(0, 1), 9, 2);
        for (int i = 0; i < 30; i++) x.runBy(0, 543210);
        x.undo();
        x.worth(5, 0, 0);
        // 1/5 + 2/4 + 3/3 + 4/2 + 5, and one who is never paired.
        fraction("behind many runs by another order", x.mean(0, 0), x.mean(0, 1), 87, 10);
    }

    private void meanRefused() {
        PairedComing x = stairs(6);
        c.at(20, "STATE: more than 6 GUESTS.");
        c.due("six", x.mean(1, 1), 2);
        x.guest();
        c.due("seven", x.mean(1, 0), STATE);
        c.due("seven", x.mean(1, 1), STATE);
        x.guest();
        x.guest();
        c.due("nine", x.mean(1, 0), STATE);
        c.at(20, "BAD");
        c.due("nine, but bad", x.mean(1, 2), BAD);
        c.due("nine, but no such rule", x.mean(2, 0), BAD);
        PairedComing y = Checks.posts(1);
        Checks.tell(y, "by +worth;");
        for (int r : NO_RULE_BUT_0) c.due("rule " + r, y.mean(r, 0), BAD);
        for (int what : Checks.FAR) c.due("what " + what, y.mean(0, what), BAD);
        c.due("what 2", y.mean(0, 2), BAD);
    }

    private void ends() {
        c.at(21, "The least (what 0), the greatest (1) VALUE of RUNS by all orders.");
        PairedComing x = stairs(6);
        c.due("six who drop, the greatest first", x.ends(0, 0), 6);
        c.due("six who drop, one by one", x.ends(0, 1), 21);
        c.due("the first stays", x.ends(1, 0), 1);
        c.due("the first stays", x.ends(1, 1), 6);
        c.due("nobody", stairs(0).ends(0, 0), 0);
        c.due("nobody", stairs(0).ends(0, 1), 0);
        c.due("one", stairs(1).ends(0, 0), 1);
        c.due("one", stairs(1).ends(0, 1), 1);
        Checks.tell(x, "by +worth if worth>6;");
        c.due("0 by all", x.ends(2, 0), 0);
        c.due("0 by all", x.ends(2, 1), 0);
        x.let(0, 0);
        c.due("the market is not asked", x.ends(0, 0), 6);
        x.undo();
        x.worth(5, 0, 0);
        c.due("a change is seen: 5 alone", x.ends(0, 0), 5);
        c.due("a change is seen: 1 to 5", x.ends(0, 1), 15);
        // By numbers neither end: 012 and 102 are 8 + 5; 021 is 8 + 6; where 2 comes first it takes post 0: 7 + 5.
        PairedComing mid = Checks.posts(1, 1);
        Checks.guest(mid, 8, 0);
        Checks.guest(mid, 0, 5);
        Checks.guest(mid, 7, 6);
        Checks.tell(mid, "by +worth;");
        c.due("by numbers", mid.run(0, 0), 13);
        c.due("the least", mid.ends(0, 0), 12);
        c.due("the greatest", mid.ends(0, 1), 14);
    }

    private void endsRefused() {
        PairedComing x = stairs(6);
        c.at(21, "STATE likewise.");
        c.due("six", x.ends(1, 1), 6);
        x.guest();
        c.due("seven", x.ends(1, 0), STATE);
        c.due("seven", x.ends(1, 1), STATE);
        c.at(21, "BAD");
        c.due("seven, but bad", x.ends(1, 2), BAD);
        c.due("seven, but no such rule", x.ends(2, 1), BAD);
        PairedComing y = Checks.posts(1);
        Checks.tell(y, "by +worth;");
        for (int r : NO_RULE_BUT_0) c.due("rule " + r, y.ends(r, 0), BAD);
        for (int what : Checks.FAR) c.due("what " + what, y.ends(0, what), BAD);
        c.due("what 2", y.ends(0, 2), BAD);
    }

    private void meanOfRanks() {
        c.at(22, "MEAN over RANKS likewise.");
        PairedComing none = new PairedComing();
        Checks.tell(none, "by -rank;");
        fraction("no posts", none.meanOfRanks(0, 0), none.meanOfRanks(0, 1), 0, 1);
        none.guest();
        fraction("a guest, no posts", none.meanOfRanks(0, 0), none.meanOfRanks(0, 1), 0, 1);
        PairedComing x = Checks.posts(1, 1, 1, 1, 1, 1);
        Checks.tell(x, "by -rank;");
        Checks.tell(x, "by +worth if rank<1;");
        Checks.tell(x, "by +worth if rank>99;");
        Checks.tell(x, "by +worth;");
        fraction("nobody", x.meanOfRanks(0, 0), x.meanOfRanks(0, 1), 0, 1);
        Checks.guest(x, 1, 2, 3, 4, 5, 6);
        fraction("rank 0 is at each of six as often", x.meanOfRanks(0, 0), x.meanOfRanks(0, 1), 7, 2);
        fraction("by a test", x.meanOfRanks(1, 0), x.meanOfRanks(1, 1), 7, 2);
        fraction("0 by all ways", x.meanOfRanks(2, 0), x.meanOfRanks(2, 1), 0, 1);
        fraction("no rank is asked", x.meanOfRanks(3, 0), x.meanOfRanks(3, 1), 6, 1);
        for (int p = 0; p < 6; p++) c.due("ranks stay", x.told(p, 1), p);
        for (int g = 1; g < 9; g++) x.guest();
        fraction("more than six guests", x.meanOfRanks(0, 0), x.meanOfRanks(0, 1), 7, 2);
        x.let(0, 5);
        fraction("the market is not asked", x.meanOfRanks(0, 0), x.meanOfRanks(0, 1), 7, 2);
        PairedComing one = Checks.posts(1);
        Checks.guest(one, 8);
        Checks.tell(one, "by -rank;");
        Checks.tell(one, "by +worth if worth>1 and worth>2 and worth>3 and worth>4;");
        fraction("one post", one.meanOfRanks(0, 0), one.meanOfRanks(0, 1), 8, 1);
        fraction("four tests, none of rank", one.meanOfRanks(1, 0), one.meanOfRanks(1, 1), 8, 1);
        one.post(1, 0, 999);
        one.worth(0, 1, 7);
        fraction("as low: the least number", one.meanOfRanks(0, 0), one.meanOfRanks(0, 1), 8, 1);
        one.rank(1, 1);
        fraction("as often one as the other", one.meanOfRanks(0, 0), one.meanOfRanks(0, 1), 15, 2);
        one.post(1, 1, 999);
        // Rank 0 is at post 2 in two of six ways: then post 0 is the first of the others.
        fraction("a post that comes behind an answer", one.meanOfRanks(0, 0), one.meanOfRanks(0, 1), 23, 3);
        PairedComing nine = Checks.posts(3, 3, 3);
        for (int g = 0; g < 9; g++) Checks.guest(nine, 10 + g, 10 + g, 10 + g);
        Checks.tell(nine, "by -rank;");
        fraction("nine guests", nine.meanOfRanks(0, 0), nine.meanOfRanks(0, 1), 126, 1);
    }

    private void equalRanks() {
        c.at(Checks.TERMS, "over all ways to give the RANKS of POSTS to POSTS (at most 6; each RANK its own).");
        PairedComing x = new PairedComing();
        for (int p = 0; p < 3; p++) x.post(1, p == 1 ? 99 : 7, 999);
        Checks.guest(x, 1, 2, 9);
        Checks.tell(x, "by -rank;");
        Checks.tell(x, "by +rank;");
        // 99 is at post 0 in two of six ways: then post 1 is the first of the others.
        fraction("two are as low", x.meanOfRanks(0, 0), x.meanOfRanks(0, 1), 4, 3);
        fraction("99 at each as often", x.meanOfRanks(1, 0), x.meanOfRanks(1, 1), 4, 1);
        x.rank(1, 7);
        fraction("all alike: the least number", x.meanOfRanks(0, 0), x.meanOfRanks(0, 1), 1, 1);
        fraction("all alike: the least number", x.meanOfRanks(1, 0), x.meanOfRanks(1, 1), 1, 1);
    }

    private void meanOfRanksBad() {
        c.at(22, "BAD.");
        PairedComing x = Checks.posts(1);
        Checks.tell(x, "by +rank;");
        for (int r : NO_RULE_BUT_0) c.due("rule " + r, x.meanOfRanks(r, 0), BAD);
        for (int what : Checks.FAR) c.due("what " + what, x.meanOfRanks(0, what), BAD);
        c.due("what 2", x.meanOfRanks(0, 2), BAD);
    }

    private void hope() {
        c.at(23, "HOPE with n steps likewise.");
        PairedComing x = Checks.posts(1);
        Checks.guest(x, 4);
        Checks.guest(x, 1);
        fraction("0 steps", x.hope(0, 0), x.hope(0, 1), 0, 1);
        fraction("1 step", x.hope(1, 0), x.hope(1, 1), 5, 2);
        // With two steps 1 is let go for the 5/2 to come; with three for the 13/4.
        fraction("2 steps", x.hope(2, 0), x.hope(2, 1), 13, 4);
        fraction("3 steps", x.hope(3, 0), x.hope(3, 1), 29, 8);
        fraction("6 steps", x.hope(6, 0), x.hope(6, 1), 253, 64);
        x.chance(1, 0);
        fraction("chance 0 never comes", x.hope(1, 0), x.hope(1, 1), 4, 1);
        fraction("one may come again, but the room is taken", x.hope(6, 0), x.hope(6, 1), 4, 1);
        x.post(2, 0, 1);
        x.worth(0, 1, 3);
        fraction("budgets are not asked: 4 + 3", x.hope(2, 0), x.hope(2, 1), 7, 1);
        fraction("4 + 3 + 3", x.hope(3, 0), x.hope(3, 1), 10, 1);
        fraction("no more room", x.hope(4, 0), x.hope(4, 1), 10, 1);
        x.let(0, 1);
        fraction("the market is not asked", x.hope(3, 0), x.hope(3, 1), 10, 1);
        x.undo();
        x.worth(0, 0, 0);
        x.worth(0, 1, 0);
        fraction("no links", x.hope(6, 0), x.hope(6, 1), 0, 1);
        PairedComing noPosts = new PairedComing();
        noPosts.guest();
        fraction("no posts", noPosts.hope(6, 0), noPosts.hope(6, 1), 0, 1);
        PairedComing more = Checks.posts(1);
        Checks.guest(more, 5);
        fraction("one guest", more.hope(1, 0), more.hope(1, 1), 5, 1);
        more.guest();
        fraction("a guest that comes behind an answer", more.hope(1, 0), more.hope(1, 1), 5, 2);
        more.chance(1, 0);
        fraction("its chance goes", more.hope(1, 0), more.hope(1, 1), 5, 1);
    }

    private void hopeLarge() {
        c.at(Checks.TERMS, "HOPE with n steps (0 to 6)");
        PairedComing x = Checks.posts(1);
        Checks.guest(x, 99);
        Checks.guests(x, 8, 0);
        for (int g = 1; g < 9; g++) x.chance(g, 9);
        // Chances are 73, a prime: guest 0 comes once at least in six steps.
        long all = 73L * 73 * 73 * 73 * 73 * 73, without = 72L * 72 * 72 * 72 * 72 * 72;
        fraction("far above an int", x.hope(6, 0), x.hope(6, 1), 99 * (all - without), all);
        PairedComing most = Checks.posts(3, 3, 3, 1);
        Checks.guests(most, 9, 99, 99, 99, 99);
        for (int g = 0; g < 9; g++) most.chance(g, 9);
        fraction("the most", most.hope(6, 0), most.hope(6, 1), 594, 1);
        PairedComing wide = Checks.posts(2, 2, 2, 2, 1, 1);
        for (int g = 0; g < 9; g++) Checks.guest(wide, 1, 1, 1, 1, 1, 1);
        wide.chance(8, 0);
        fraction("six posts, ten rooms", wide.hope(6, 0), wide.hope(6, 1), 6, 1);
        fraction("five steps", wide.hope(5, 0), wide.hope(5, 1), 5, 1);
    }

    private void hopeRefused() {
        c.at(23, "STATE: all CHANCES are 0.");
        PairedComing x = Checks.posts(1);
        c.due("nobody", x.hope(1, 0), STATE);
        c.due("nobody, 0 steps", x.hope(0, 1), STATE);
        Checks.guests(x, 9, 5);
        for (int g = 0; g < 8; g++) x.chance(g, 0);
        c.due("one has a chance", x.hope(1, 0), 5);
        x.chance(8, 0);
        c.due("none has", x.hope(1, 0), STATE);
        c.due("none has, 0 steps", x.hope(0, 0), STATE);
        c.due("none has, 6 steps", x.hope(6, 1), STATE);
        c.at(23, "BAD");
        for (int n : new int[] {LOW, -1, 7, HIGH}) c.due("no chance, but " + n + " steps", x.hope(n, 0), BAD);
        c.due("no chance, but bad", x.hope(0, 2), BAD);
        x.chance(8, 1);
        for (int n : new int[] {LOW, -1, 7, HIGH}) c.due(n + " steps", x.hope(n, 0), BAD);
        for (int what : Checks.FAR) c.due("what " + what, x.hope(1, what), BAD);
        c.due("what 2", x.hope(1, 2), BAD);
    }

    private void hopeFor() {
        c.at(24, "To what POST a GUEST who comes first of n steps (1 to 6) is to be paired for HOPE: the least of several "
            + "that are as good (letting go is behind all).");
        PairedComing x = Checks.posts(1, 1, 1, 1, 1, 1);
        Checks.guest(x, 7, 7, 7, 7, 7, 7);
        Checks.guest(x, 0, 0, 0, 0, 0, 1);
        Checks.guest(x, 0, 3, 4, 4, 0, 0);
        c.due("six as good", x.hopeFor(0, 1), 0);
        c.due("the last alone", x.hopeFor(1, 1), 5);
        c.due("two as good", x.hopeFor(2, 1), 2);
        PairedComing one = Checks.posts(1);
        Checks.guest(one, 4);
        Checks.guest(one, 2);
        Checks.guest(one, 0);
        // One step to come hopes for 2: to take 2 now is as good as to let it go.
        c.due("as good as letting go", one.hopeFor(1, 2), 0);
        one.worth(1, 0, 1);
        c.due("worse than letting go", one.hopeFor(1, 2), NONE);
        c.due("the last step", one.hopeFor(1, 1), 0);
        c.due("the greatest at once", one.hopeFor(0, 6), 0);
        one.chance(0, 0);
        c.due("without a chance of its own", one.hopeFor(0, 6), 0);
        c.due("nothing better to come", one.hopeFor(1, 6), 0);
        // With a step to come, guest 0 leaves post 0 to guest 1, who has no other.
        PairedComing two = Checks.posts(1, 1);
        Checks.guest(two, 4, 4);
        Checks.guest(two, 4, 0);
        c.due("one step", two.hopeFor(0, 1), 0);
        c.due("two steps", two.hopeFor(0, 2), 1);
        two.chance(1, 0);
        c.due("two steps, but guest 1 never comes", two.hopeFor(0, 2), 0);
        two.chance(1, 1);
        two.let(1, 0);
        c.due("the market is not asked", two.hopeFor(0, 1), 0);
        PairedComing six = Checks.posts(3);
        Checks.guest(six, 99);
        Checks.guest(six, 1);
        six.chance(0, 9);
        c.due("6 steps", six.hopeFor(1, 6), NONE);
        c.due("3 steps", six.hopeFor(1, 3), 0);
    }

    private void hopeForRefused() {
        PairedComing x = Checks.posts(1);
        Checks.guest(x, 5);
        Checks.guest(x, 0);
        c.at(24, "NONE: let go.");
        c.due("no link", x.hopeFor(1, 1), NONE);
        c.due("no link, 6 steps", x.hopeFor(1, 6), NONE);
        PairedComing noPosts = new PairedComing();
        noPosts.guest();
        c.due("no posts", noPosts.hopeFor(0, 1), NONE);
        PairedComing six = Checks.posts(1, 1, 1, 1, 1, 1);
        for (int g = 0; g < 9; g++) Checks.guest(six, g == 7 ? 9 : 0);
        c.due("no link, but the next guest has one", six.hopeFor(6, 6), NONE);
        c.due("the last guest has no link", six.hopeFor(8, 6), NONE);
        c.at(24, "STATE likewise");
        x.chance(1, 0);
        c.due("one has a chance", x.hopeFor(0, 1), 0);
        x.chance(0, 0);
        c.due("none has", x.hopeFor(0, 1), STATE);
        c.due("none has, no link", x.hopeFor(1, 6), STATE);
        c.at(24, "BAD");
        c.due("none has, but 0 steps", x.hopeFor(0, 0), BAD);
        c.due("none has, but no such guest", x.hopeFor(2, 1), BAD);
        x.chance(0, 1);
        for (int n : new int[] {LOW, -1, 0, 7, HIGH}) c.due(n + " steps", x.hopeFor(0, n), BAD);
        for (int g : new int[] {LOW, -1, 2, 9, HIGH}) c.due("guest " + g, x.hopeFor(g, 1), BAD);
        c.due("nobody", Checks.posts(1).hopeFor(0, 1), BAD);
    }

    private void batch() {
        c.at(25, "BATCHES of b: what 0 the sum of WORTHS");
        c.due("nothing", new PairedComing().batch(9, 0), 0);
        PairedComing x = Checks.posts(1, 1);
        c.due("nobody", x.batch(1, 0), 0);
        Checks.guest(x, 5, 4);
        Checks.guest(x, 5, 0);
        Checks.guest(x, 0, 9);
        // By ones 5, -, 9; by twos 4 + 5, then nothing is left; by threes 5 + 9.
        int[] sums = {14, 9, 14, 14, 14, 14, 14, 14, 14};
        for (int b = 1; b <= 9; b++) c.due("by " + b, x.batch(b, 0), sums[b - 1]);
        c.due("nine is best", x.best(), 14);
        Checks.guest(x, 9, 0);
        c.due("by ones, one more", x.batch(1, 0), 14);
        c.due("by threes, the last alone", x.batch(3, 0), 14);
        c.due("by fours", x.batch(4, 0), 18);
        PairedComing last = Checks.posts(2, 1);
        for (int g = 0; g < 9; g++) Checks.guest(last, 0, g == 8 ? 7 : 0);
        for (int b = 1; b <= 9; b++) c.due("the last ones too, by " + b, last.batch(b, 0), 7);
        PairedComing most = Checks.posts(3, 3, 3, 1);
        Checks.guests(most, 9, 99, 99, 99, 99);
        for (int b = 1; b <= 9; b++) c.due("the most, by " + b, most.batch(b, 0), 891);
        most.let(0, 0);
        c.due("the market is not asked", most.batch(4, 0), 891);
        PairedComing spent = new PairedComing();
        spent.post(2, 0, 1);
        Checks.guests(spent, 2, 60);
        c.due("nor are budgets", spent.batch(1, 0), 120);
    }

    private void batchTies() {
        c.at(25, "10 and g: the POST of GUEST g (NONE)");
        PairedComing x = Checks.posts(1, 1);
        Checks.guest(x, 5, 4);
        Checks.guest(x, 5, 0);
        Checks.guest(x, 0, 9);
        int[][] wants = {{0, NONE, 1}, {1, 0, NONE}, {0, NONE, 1}};
        for (int b = 1; b <= 3; b++) {
            for (int g = 0; g < 3; g++) c.due("by " + b + ", guest " + g, x.batch(b, 10 + g), wants[b - 1][g]);
        }
        // All as good: in each batch the first has the least post that is left.
        PairedComing six = Checks.posts(1, 1, 1, 1, 1, 1);
        Checks.guests(six, 9, 3, 3, 3, 3, 3, 3);
        for (int b = 1; b <= 9; b++) {
            for (int g = 0; g < 9; g++) c.due("by " + b + ", guest " + g, six.batch(b, 10 + g), g < 6 ? g : NONE);
        }
        PairedComing least = Checks.posts(1);
        Checks.guest(least, 1);
        c.due("the least worth", least.batch(1, 10), 0);
        least.guest();
        c.due("a guest that comes behind an answer", least.batch(1, 11), NONE);
        c.at(Checks.TERMS, "of several so that the first of them has the least POST (none behind all), then the next one, and so on.");
        PairedComing last = Checks.posts(1, 1);
        Checks.guest(last, 0, 0);
        Checks.guest(last, 0, 6);
        Checks.guest(last, 0, 6);
        c.due("the first of the batch", last.batch(9, 11), 1);
        c.due("none for the next", last.batch(9, 12), NONE);
        c.due("by twos", last.batch(2, 11), 1);
        c.due("by twos", last.batch(2, 12), NONE);
    }

    private void batchBad() {
        c.at(25, "BAD.");
        PairedComing x = Checks.posts(1);
        Checks.guests(x, 2, 5);
        for (int b : new int[] {LOW, -1, 0, 10, HIGH}) c.due("by " + b, x.batch(b, 0), BAD);
        for (int what = 1; what <= 9; what++) c.due("what " + what, x.batch(1, what), BAD);
        for (int what : Checks.FAR) c.due("what " + what, x.batch(1, what), BAD);
        c.due("guest 1 of two", x.batch(1, 11), NONE);
        c.due("guest 2 of two", x.batch(1, 12), BAD);
        c.due("guest 0 of none", Checks.posts(1).batch(1, 10), BAD);
    }

    private void worst() {
        c.at(26, "THE WORST of a RULE in NETS of size n: 0 the numerator, 1 the denominator of its SHARE, in lowest terms, "
            + "2 the NET's bits, 3 in how many NETS SHARE is 1.");
        PairedComing x = new PairedComing();
        Checks.tell(x, "by -number;");
        Checks.tell(x, "by +number;");
        Checks.tell(x, "by +worth if worth>1;");
        Checks.tell(x, "by +worth drop;");
        // Of size 3: guest 0 takes one of two posts, guest 1 has that alone: bits 1 + 2 + 8, and 1 + 2 + 16.
        int[][] first = {{1, 1, 1, 1}, {1, 2, 7, 14}, {1, 2, 11, 416}};
        int[][] last = {{1, 1, 1, 1}, {1, 2, 11, 14}, {1, 2, 19, 416}};
        int[][] nothing = {{0, 1, 1, 0}, {0, 1, 1, 0}, {0, 1, 1, 0}};
        int[][][] wants = {first, last, nothing, first};
        for (int r = 0; r < 4; r++) {
            for (int n = 3; n >= 1; n--) {
                for (int what = 0; what < 4; what++) {
                    c.due("rule " + r + ", size " + n + ", " + what, x.worst(r, n, what), wants[r][n - 1][what]);
                }
            }
        }
        x.post(2, 50, 1);
        Checks.guest(x, 3);
        x.let(0, 0);
        c.due("the own net is not asked", x.worst(0, 3, 3), 416);
        c.due("and stays", x.told(0, 2), 1);
    }

    private void worstRanks() {
        c.at(Checks.TERMS, "NETS of size n (1 to 3): n POSTS of ROOM 1, RANK as their number, BUDGET 999");
        PairedComing x = Checks.posts(3, 3);
        Checks.tell(x, "by +worth if rank>1;");
        Checks.tell(x, "by +worth if rank>0;");
        Checks.tell(x, "by +worth if rank<1;");
        Checks.tell(x, "by +worth if room<2 and left>99 and room>0 and paid<1;");
        // Post 2 alone may be taken. Whole: links to it alone (7), or of one guest alone, to it and others (3 by 3).
        c.due("post 2 alone, whole", x.worst(0, 3, 3), 16);
        c.due("post 2 alone, bits", x.worst(0, 3, 2), 1);
        c.due("no such post, whole", x.worst(0, 2, 3), 0);
        c.due("no such post, bits", x.worst(0, 1, 2), 1);
        c.due("post 1 alone, whole", x.worst(1, 2, 3), 5);
        c.due("post 0 alone, bits", x.worst(2, 2, 2), 2);
        c.due("post 0 alone, whole", x.worst(2, 2, 3), 5);
        c.due("post 0 alone, size 1", x.worst(2, 1, 3), 1);
        int[] plain = {1, 2, 11, 416};
        for (int what = 0; what < 4; what++) c.due("one room, nothing paid, " + what, x.worst(3, 3, what), plain[what]);
    }

    private void worstBad() {
        c.at(26, "BAD.");
        PairedComing x = new PairedComing();
        Checks.tell(x, "by +worth;");
        for (int r : NO_RULE_BUT_0) c.due("rule " + r, x.worst(r, 1, 0), BAD);
        for (int n : new int[] {LOW, -1, 0, 4, HIGH}) c.due("size " + n, x.worst(0, n, 0), BAD);
        for (int what : Checks.FAR) c.due("what " + what, x.worst(0, 1, what), BAD);
        c.due("what 4", x.worst(0, 1, 4), BAD);
    }
}
