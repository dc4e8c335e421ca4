import java.util.Random;

/** Promises 15 to 19, sentence by sentence: the least, the greatest, one beyond, empty, full, refused. */
public final class BoundariesOfBestTest {
    private static final int BAD = Checks.BAD, NONE = Checks.NONE;
    private static final int LOW = Checks.LOW, HIGH = Checks.HIGH;

    private final Checks c = new Checks();

    private BoundariesOfBestTest() throws java.io.IOException { }

    public static void main(String[] args) throws Exception {
        BoundariesOfBestTest t = new BoundariesOfBestTest();
        t.best();
        t.bestOf();
        t.bestOfBad();
        t.price();
        t.cover();
        t.coverBad();
        t.coverProves();
        t.share();
        t.shareBad();
        t.c.wholly(15, 19);
        t.c.finish();
    }

    private void best() {
        c.at(15, "BEST.");
        c.due("nothing", new PairedComing().best(), 0);
        PairedComing noPosts = new PairedComing();
        Checks.guests(noPosts, 9);
        c.due("no posts", noPosts.best(), 0);
        PairedComing x = Checks.posts(3, 3, 3, 1);
        c.due("no guests", x.best(), 0);
        Checks.guests(x, 9);
        c.due("no links", x.best(), 0);
        x.worth(8, 3, 1);
        c.due("one link", x.best(), 1);
        for (int g = 0; g < 9; g++) for (int p = 0; p < 4; p++) x.worth(g, p, 99);
        c.due("all there may be", x.best(), 891);
        PairedComing one = new PairedComing();
        one.post(1, 0, 1);
        for (int g = 0; g < 9; g++) Checks.guest(one, 10 + g);
        c.due("one room, no budget asked", one.best(), 18);
        one.let(0, 0);
        c.due("the room is taken in the market alone", one.best(), 18);
        PairedComing three = Checks.posts(3);
        for (int g = 0; g < 9; g++) Checks.guest(three, 10 + g);
        c.due("three rooms", three.best(), 18 + 17 + 16);
        // The greatest of one guest is not in the greatest of all.
        PairedComing crossed = Checks.posts(1, 1);
        Checks.guest(crossed, 99, 98);
        Checks.guest(crossed, 2, 0);
        c.due("98 + 2", crossed.best(), 100);
        crossed.worth(1, 0, 1);
        c.due("99, or 98 + 1", crossed.best(), 99);
    }

    private void bestOf() {
        c.at(16, "The POST of a GUEST in a row of pairs that is BEST: of all that the one in which GUEST 0 has the "
            + "least POST (none behind all), then GUEST 1, and so on.");
        PairedComing six = Checks.posts(1, 1, 1, 1, 1, 1);
        Checks.guests(six, 9, 4, 4, 4, 4, 4, 4);
        for (int g = 0; g < 9; g++) c.due("as good all over, guest " + g, six.bestOf(g), g < 6 ? g : NONE);
        PairedComing last = Checks.posts(1, 1, 1, 1, 1, 1);
        Checks.guests(last, 2, 0, 0, 0, 0, 0, 7);
        c.due("the greatest post is ahead of none", last.bestOf(0), 5);
        c.due("none is left", last.bestOf(1), NONE);
        // 4 + 3 either way: guest 0 at post 0 goes with guest 1 at 1, and the other way round.
        PairedComing two = Checks.posts(1, 1);
        Checks.guest(two, 4, 3);
        Checks.guest(two, 4, 3);
        c.due("guest 0 first", two.bestOf(0), 0);
        c.due("guest 1 then", two.bestOf(1), 1);
        // 99 by guest 0 at post 0, or 98 + 1: guest 0 at the least post, guest 1 nowhere.
        PairedComing crossed = Checks.posts(1, 1);
        Checks.guest(crossed, 99, 98);
        Checks.guest(crossed, 1, 0);
        c.due("guest 0 at the least", crossed.bestOf(0), 0);
        c.due("guest 1 nowhere", crossed.bestOf(1), NONE);
        crossed.worth(1, 0, 2);
        c.due("best alone is asked first", crossed.bestOf(0), 1);
        c.due("best alone is asked first", crossed.bestOf(1), 0);
        PairedComing least = Checks.posts(1, 1);
        Checks.guests(least, 2, 1, 1);
        c.due("the least worth", least.bestOf(0), 0);
        c.due("the least worth", least.bestOf(1), 1);
        c.due("a guest that comes behind an answer", least.guest(), 2);
        c.due("holds none", least.bestOf(2), NONE);
        PairedComing rooms = Checks.posts(2, 1);
        Checks.guests(rooms, 3, 5, 5);
        int[] wants = {0, 0, 1};
        for (int g = 0; g < 3; g++) c.due("two at post 0, guest " + g, rooms.bestOf(g), wants[g]);
    }

    private void bestOfBad() {
        PairedComing x = Checks.posts(1);
        Checks.guest(x, 3);
        Checks.guest(x, 9);
        Checks.guest(x, 0);
        c.at(16, "BAD");
        for (int g : new int[] {LOW, -1, 3, 9, HIGH}) c.due("guest " + g, x.bestOf(g), BAD);
        c.due("nobody", Checks.posts(1).bestOf(0), BAD);
        c.at(16, "NONE.");
        c.due("another is worth more", x.bestOf(0), NONE);
        c.due("no link", x.bestOf(2), NONE);
        PairedComing noPosts = new PairedComing();
        noPosts.guest();
        c.due("no posts", noPosts.bestOf(0), NONE);
    }

    private void price() {
        c.at(17, "PRICE of a POST.");
        PairedComing x = Checks.posts(3, 3, 3, 1);
        c.due("no guests", x.price(0), 0);
        Checks.guests(x, 9, 0, 0, 0, 99);
        c.due("the eleventh room", x.price(3), 99);
        c.due("no links", x.price(0), 0);
        PairedComing fourth = Checks.posts(3);
        for (int g = 0; g < 3; g++) Checks.guest(fourth, 50);
        c.due("room for all", fourth.price(0), 0);
        Checks.guest(fourth, 1);
        c.due("a fourth room", fourth.price(0), 1);
        c.due("the room itself stays", fourth.told(0, 0), 3);
        c.due("best stays", fourth.best(), 150);
        // One room more at post 1 helps by way of guest 0, who leaves post 0 to guest 1.
        PairedComing chain = Checks.posts(1, 1);
        Checks.guest(chain, 6, 5);
        Checks.guest(chain, 6, 0);
        Checks.guest(chain, 0, 5);
        c.due("best", chain.best(), 11);
        c.due("6 + 5 + 5 less 11", chain.price(1), 5);
        c.due("6 + 6 + 5 less 11", chain.price(0), 6);
        PairedComing wide = Checks.posts(2, 2, 2, 2, 1, 1);
        for (int g = 0; g < 9; g++) Checks.guest(wide, 1, 1, 1, 1, 1, 9);
        for (int p = 0; p < 5; p++) c.due("room for all at post " + p, wide.price(p), 0);
        c.due("a second room worth 9", wide.price(5), 8);
        PairedComing spent = new PairedComing();
        spent.post(1, 0, 1);
        Checks.guests(spent, 2, 60);
        c.due("no budget is asked", spent.price(0), 60);
        spent.let(0, 0);
        c.due("nor is the market", spent.price(0), 60);
        c.at(17, "BAD.");
        for (int p : new int[] {LOW, -1, 6, HIGH}) c.due("post " + p, wide.price(p), BAD);
        c.due("post 1 of one", spent.price(1), BAD);
    }

    private void cover() {
        c.at(18, "COVER by PRICES that are told: digits to the base 100, POST 0 the lowest.");
        PairedComing x = Checks.posts(1, 2, 3);
        c.due("rooms alone", x.cover(3_02_01), 1 + 2 * 2 + 3 * 3);
        c.due("post 0", x.cover(99), 99);
        c.due("post 1", x.cover(99_00), 198);
        c.due("post 2", x.cover(99_00_00), 297);
        c.due("all at 99", x.cover(99_99_99), 594);
        Checks.guest(x, 10, 20, 30);
        c.due("no price", x.cover(0), 30);
        c.due("10, 20, 30 less 0, 5, 28", x.cover(28_05_00), 2 * 5 + 3 * 28 + 15);
        c.due("10, 20, 30 less 9, 20, 30", x.cover(30_20_09), 9 + 40 + 90 + 1);
        c.due("nothing is left", x.cover(30_20_10), 10 + 40 + 90);
        c.due("none below 0", x.cover(31_21_11), 11 + 42 + 93);
        PairedComing none = new PairedComing();
        c.due("no posts", none.cover(0), 0);
        none.guest();
        c.due("a guest without posts", none.cover(0), 0);
        PairedComing six = Checks.posts(2, 2, 2, 2, 1, 1);
        Checks.guests(six, 9, 99, 99, 99, 99, 99, 99);
        c.due("twelve digits", six.cover(99_99_99_99_99_99L), 990);
        c.due("no price", six.cover(0), 891);
        c.due("post 5 alone", six.cover(99_00_00_00_00_00L), 99 + 891);
        six.let(0, 0);
        c.due("the market is not asked", six.cover(0), 891);
    }

    private void coverBad() {
        c.at(18, "BAD: below 0, more than there are.");
        PairedComing six = Checks.posts(1, 1, 1, 1, 1, 1);
        for (long v : new long[] {-1, -99, -100, Long.MIN_VALUE, Long.MIN_VALUE + 1, -99_99_99_99_99_99L}) {
            c.due("prices " + v, six.cover(v), BAD);
        }
        c.due("one too many", six.cover(1_00_00_00_00_00_00L), BAD);
        c.due("far too many", six.cover(Long.MAX_VALUE), BAD);
        // The lowest 32 bits of these are 0, or 1: an int would not see what stands above.
        c.due("2 to the 40 has seven", six.cover(1L << 40), BAD);
        c.due("2 to the 32 has five", six.cover(1L << 32), 96 + 72 + 96 + 94 + 42);
        c.due("2 to the 62", six.cover(1L << 62), BAD);
        c.due("2 to the 62 and 1", six.cover((1L << 62) + 1), BAD);
        PairedComing two = Checks.posts(1, 1);
        c.due("two prices", two.cover(99_99), 198);
        c.due("a third", two.cover(1_00_00), BAD);
        c.due("2 to the 32", two.cover(1L << 32), BAD);
        // What a price below 0 would tell is not BAD by chance.
        PairedComing below = Checks.posts(3, 2);
        Checks.guest(below, 9, 9);
        for (long v : new long[] {-1, -2, -100, -101}) c.due("below 0, " + v, below.cover(v), BAD);
        c.due("no posts, one price", new PairedComing().cover(1), BAD);
        c.due("no posts, below 0", new PairedComing().cover(-1), BAD);
    }

    /** Prices prove the best: by them the cover is just the best, by any others never below. */
    private void coverProves() {
        c.at(Checks.TERMS, "(It is never below BEST.)");
        Random random = new Random(17);
        for (int net = 0; net < 200; net++) {
            PairedComing x = new PairedComing();
            while (x.count(0) < 6 && random.nextInt(8) > 0) x.post(1 + random.nextInt(3), 0, 999);
            int posts = x.count(0);
            for (int g = random.nextInt(10); g > 0; g--) {
                int[] worths = new int[posts];
                for (int p = 0; p < posts; p++) worths[p] = Math.max(0, random.nextInt(net % 2 == 0 ? 9 : 130) - 2) % 100;
                Checks.guest(x, worths);
            }
            int best = x.best();
            long own = 0;
            for (int p = posts - 1; p >= 0; p--) own = own * 100 + x.price(p);
            c.due("by its own prices", x.cover(own), best);
            for (int i = 0; i < 5; i++) {
                long any = 0;
                for (int p = 0; p < posts; p++) any = any * 100 + random.nextInt(net % 2 == 0 ? 9 : 100);
                c.due("by others not below", x.cover(any) >= best ? 1 : 0, 1);
            }
        }
    }

    private void share() {
        c.at(19, "Whether a RULE's RUN by numbers has KEPT at least over by under of BEST (over 0 to 99, under 1 to 99) (1, 0).");
        PairedComing x = Checks.posts(1);
        Checks.guest(x, 98);
        Checks.guest(x, 99);
        Checks.tell(x, "by +worth;");
        Checks.tell(x, "by +worth if worth>99;");
        c.due("just 98 by 99", x.share(0, 98, 99), 1);
        c.due("not 99 by 99", x.share(0, 99, 99), 0);
        c.due("not 1", x.share(0, 1, 1), 0);
        c.due("0 by 99", x.share(0, 0, 99), 1);
        c.due("0 by 1", x.share(0, 0, 1), 1);
        c.due("1 by 99", x.share(0, 1, 99), 1);
        c.due("99 by 1", x.share(0, 99, 1), 0);
        c.due("nothing kept is 0", x.share(1, 0, 1), 1);
        c.due("nothing kept is not 1 by 99", x.share(1, 1, 99), 0);
        x.worth(0, 0, 99);
        c.due("all of best", x.share(0, 1, 1), 1);
        c.due("all of best", x.share(0, 99, 99), 1);
        c.due("more than all", x.share(0, 99, 98), 0);
        PairedComing empty = new PairedComing();
        Checks.tell(empty, "by +worth;");
        c.due("best is 0: at least all of it", empty.share(0, 99, 1), 1);
        PairedComing most = Checks.posts(3, 3, 3, 1);
        Checks.guests(most, 9, 99, 99, 99, 99);
        Checks.tell(most, "by +worth;");
        c.due("the most", most.share(0, 99, 99), 1);
        c.due("above the most", most.share(0, 99, 98), 0);
        PairedComing dropped = Checks.posts(1);
        Checks.guest(dropped, 4);
        Checks.guest(dropped, 5);
        Checks.tell(dropped, "by +worth drop;");
        c.due("kept is best, value is above", dropped.share(0, 1, 1), 1);
        c.due("kept is asked, not value", dropped.share(0, 9, 5), 0);
        PairedComing poor = new PairedComing();
        poor.post(1, 0, 1);
        Checks.guest(poor, 50);
        Checks.tell(poor, "by +worth;");
        c.due("kept is asked, not what the budget paid", poor.share(0, 1, 1), 1);
    }

    private void shareBad() {
        c.at(19, "BAD.");
        PairedComing x = Checks.posts(1);
        Checks.guest(x, 9);
        Checks.tell(x, "by +worth;");
        for (int over : new int[] {LOW, -1, 100, HIGH}) c.due("over " + over, x.share(0, over, 99), BAD);
        for (int under : new int[] {LOW, -1, 0, 100, HIGH}) c.due("under " + under, x.share(0, 0, under), BAD);
        for (int r : new int[] {LOW, -1, 1, 6, HIGH}) c.due("rule " + r, x.share(r, 0, 1), BAD);
    }
}
