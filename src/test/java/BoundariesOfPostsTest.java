/** Promises 1 to 7, sentence by sentence: the least, the greatest, one beyond, empty, full, refused. */
public final class BoundariesOfPostsTest {
    private static final int BAD = Checks.BAD, STATE = Checks.STATE, FULL = Checks.FULL, NONE = Checks.NONE;
    private static final int LOW = Checks.LOW, HIGH = Checks.HIGH;

    private final Checks c = new Checks();

    private BoundariesOfPostsTest() throws java.io.IOException { }

    public static void main(String[] args) throws Exception {
        BoundariesOfPostsTest t = new BoundariesOfPostsTest();
        t.newObject();
        t.emptyObject();
        t.post();
        t.postState();
        t.postFull();
        t.guest();
        t.worth();
        t.worthState();
        t.chance();
        t.rank();
        t.told();
        t.toldMarket();
        t.c.wholly(1, 7);
        t.c.finish();
    }

    private void newObject() {
        c.at(1, "No POSTS, GUESTS, RULES");
        PairedComing used = Checks.posts(1);
        Checks.guest(used, 5);
        Checks.tell(used, "by+rank;");
        used.feed(0L);
        used.sheet(0, 0, 3);
        PairedComing x = new PairedComing();
        for (int what = 0; what <= 5; what++) c.due("beside a used one, count " + what, x.count(what), 0);
        c.due("no post 0", x.told(0, 0), BAD);
        c.due("no guest 0", x.bestOf(0), BAD);
        c.due("no rule 0", x.ruleOf(0, 0), BAD);
        c.due("the first post", x.post(1, 0, 1), 0);
        c.due("the first guest", x.guest(), 0);
        c.due("the first rule", Checks.tell(x, "by+rank;"), 0);
        c.at(1, "SHEETS have nothing.");
        PairedComing y = new PairedComing();
        c.due("cells", y.count(6), NONE);
        for (int k = 0; k < 4; k++) {
            c.due("lay on sheet " + k, y.lay(k, 0, 0), -11);
            for (int lane = 0; lane < 3; lane++) c.due("net of sheet " + k, y.net(k, lane, 0), -11);
        }
    }

    /** What every call answers where there is nothing yet. */
    private void emptyObject() {
        c.at(1, "No POSTS, GUESTS, RULES");
        PairedComing x = new PairedComing();
        c.due("worth", x.worth(0, 0, 0), BAD);
        c.due("chance", x.chance(0, 1), BAD);
        c.due("rank", x.rank(0, 0), BAD);
        c.due("run", x.run(0, 0), BAD);
        c.due("runBy", x.runBy(0, 0), BAD);
        c.due("best", x.best(), 0);
        c.due("price", x.price(0), BAD);
        c.due("cover", x.cover(0), 0);
        c.due("share", x.share(0, 0, 1), BAD);
        c.due("mean", x.mean(0, 0), BAD);
        c.due("ends", x.ends(0, 0), BAD);
        c.due("meanOfRanks", x.meanOfRanks(0, 0), BAD);
        c.due("hope", x.hope(0, 0), STATE);
        c.due("hopeFor", x.hopeFor(0, 1), BAD);
        c.due("batch", x.batch(1, 0), 0);
        c.due("batch of guest 0", x.batch(1, 10), BAD);
        c.due("worst", x.worst(0, 1, 0), BAD);
        c.due("come", x.come(0, 0), BAD);
        c.due("let", x.let(0, 0), BAD);
        c.due("leave", x.leave(0), BAD);
        c.due("undo", x.undo(), NONE);
        for (int what = 0; what < 5; what++) c.due("market " + what, x.market(what), 0);
        c.due("market of guest 0", x.market(10), BAD);
        c.due("fault", x.fault(), 0);
        c.due("end", x.end(0), 0);
        c.due("rule", x.rule(), -10);
    }

    private void post() {
        c.at(2, "A POST: its number.");
        PairedComing x = new PairedComing();
        for (int p = 0; p < 6; p++) c.due("post " + p, x.post(1, 99 - p, 1 + p), p);
        for (int p = 0; p < 6; p++) c.due("rank of " + p, x.told(p, 1), 99 - p);
        PairedComing late = Checks.posts(1);
        Checks.guests(late, 2, 7);
        late.post(1, 0, 999);
        c.due("no links with a post that comes behind the guests", late.told(1, 6), 0);
        c.at(2, "BAD");
        PairedComing y = new PairedComing();
        int[] rooms = {LOW, -1, 0, 4, HIGH}, ranks = {LOW, -1, 100, HIGH}, budgets = {LOW, -1, 0, 1000, HIGH};
        for (int room : rooms) c.due("room " + room, y.post(room, 0, 1), BAD);
        for (int rank : ranks) c.due("rank " + rank, y.post(1, rank, 1), BAD);
        for (int budget : budgets) c.due("budget " + budget, y.post(1, 0, budget), BAD);
        c.due("none came", y.count(0), 0);
        c.due("the least of all", y.post(1, 0, 1), 0);
        c.due("the most of all", y.post(3, 99, 999), 1);
        c.due("room 2", y.post(2, 50, 500), 2);
        c.due("full, but bad", Checks.posts(3, 3, 3, 1).post(1, 0, 0), BAD);
        PairedComing come = Checks.posts(1);
        Checks.guest(come, 1);
        come.let(0, 0);
        c.due("somebody has come, but bad", come.post(1, 100, 1), BAD);
    }

    private void postState() {
        c.at(2, "STATE: somebody has COME to THE MARKET");
        PairedComing x = Checks.posts(1);
        Checks.guest(x, 3);
        Checks.guest(x, 0);
        Checks.guest(x, 5);
        Checks.tell(x, "by +worth drop;");
        c.due("nobody yet", x.post(1, 0, 1), 1);
        x.come(1, 0);
        c.due("one came and was let go", x.post(1, 0, 1), STATE);
        x.undo();
        c.due("undone", x.post(1, 0, 1), 2);
        x.let(0, 0);
        c.due("one holds room", x.post(1, 0, 1), STATE);
        x.leave(0);
        c.due("it is gone, but has come", x.post(1, 0, 1), STATE);
        x.undo();
        c.due("the leaving alone is undone", x.post(1, 0, 1), STATE);
        x.come(2, 0);
        x.undo();
        c.due("one of two is undone", x.post(1, 0, 1), STATE);
        x.undo();
        c.due("all is undone", x.post(1, 0, 1), 3);
        x.run(0, 0);
        c.due("a run is no market", x.post(1, 0, 1), 4);
        c.due("as many as came", x.count(0), 5);
        PairedComing full = Checks.posts(3, 3, 3, 1);
        Checks.guest(full, 1);
        full.let(0, 0);
        c.due("full too, but state is ahead", full.post(1, 0, 1), STATE);
    }

    private void postFull() {
        c.at(2, "FULL: 6, or ROOMS above 10.");
        PairedComing six = Checks.posts(1, 1, 1, 1, 1);
        c.due("the sixth", six.post(1, 0, 1), 5);
        c.due("the seventh, with four rooms left", six.post(1, 0, 1), FULL);
        c.due("still six", six.count(0), 6);
        c.due("still six rooms", six.count(4), 6);
        c.due("no post 6", six.told(6, 0), BAD);
        PairedComing nine = Checks.posts(3, 3, 3);
        c.due("12 rooms", nine.post(3, 0, 1), FULL);
        c.due("11 rooms", nine.post(2, 0, 1), FULL);
        c.due("still 9", nine.count(4), 9);
        c.due("still three", nine.count(0), 3);
        c.due("10 rooms", nine.post(1, 0, 1), 3);
        c.due("11 rooms by one", nine.post(1, 0, 1), FULL);
        c.due("10 it is", nine.count(4), 10);
        PairedComing both = Checks.posts(2, 2, 2, 2, 1);
        c.due("six posts and ten rooms", both.post(1, 0, 1), 5);
        c.due("more of both", both.post(1, 0, 1), FULL);
        PairedComing eight = Checks.posts(3, 3, 2);
        c.due("11 by three", eight.post(3, 0, 1), FULL);
        c.due("10 by two", eight.post(2, 0, 1), 3);
    }

    private void guest() {
        c.at(3, "A GUEST without LINKS: its number.");
        PairedComing x = Checks.posts(1, 1, 1, 1, 1, 1);
        for (int g = 0; g < 9; g++) {
            c.due("guest " + g, x.guest(), g);
            c.due("links", x.count(3), 6 * g);
            for (int p = 0; p < 6; p++) x.worth(g, p, 9);
        }
        PairedComing y = Checks.posts(1);
        Checks.guest(y, 3);
        y.let(0, 0);
        c.due("while somebody has come", y.guest(), 1);
        c.due("the new one has not", y.market(2), 1);
        c.due("it holds nothing", y.market(11), NONE);
        c.due("it has no link", y.let(1, 0), STATE);
        y.undo();
        c.due("no act was noted", y.undo(), NONE);
        c.due("the new one stays", y.count(1), 2);
        c.at(3, "FULL.");
        c.due("the tenth", x.guest(), FULL);
        c.due("and again", x.guest(), FULL);
        c.due("still nine", x.count(1), 9);
        c.due("no guest 9", x.chance(9, 1), BAD);
        c.due("links stay", x.count(3), 54);
    }

    private void worth() {
        c.at(4, "WORTH of a GUEST at a POST becomes v: what it was.");
        PairedComing x = Checks.posts(1, 1, 1, 1, 1, 1);
        Checks.guests(x, 9);
        for (int g = 0; g < 9; g++) {
            for (int p = 0; p < 6; p++) c.due("at first " + g + ", " + p, x.worth(g, p, 6 * g + p), 0);
        }
        for (int g = 0; g < 9; g++) {
            for (int p = 0; p < 6; p++) c.due("each its own " + g + ", " + p, x.worth(g, p, 99), 6 * g + p);
        }
        c.due("99", x.worth(8, 5, 0), 99);
        c.due("0", x.worth(8, 5, 1), 0);
        c.due("1", x.worth(8, 5, 1), 1);
        c.at(4, "BAD");
        PairedComing y = Checks.posts(1, 1);
        Checks.guests(y, 3, 7, 7);
        for (int g : new int[] {LOW, -1, 3, 9, HIGH}) c.due("guest " + g, y.worth(g, 0, 1), BAD);
        for (int p : new int[] {LOW, -1, 2, 6, HIGH}) c.due("post " + p, y.worth(0, p, 1), BAD);
        for (int v : new int[] {LOW, -1, 100, HIGH}) c.due("worth " + v, y.worth(0, 0, v), BAD);
        c.due("unchanged", y.worth(0, 0, 7), 7);
        y.let(0, 0);
        c.due("has come, but bad", y.worth(0, 0, 100), BAD);
        c.due("has come, but no such post", y.worth(0, 2, 1), BAD);
        c.due("guests without posts", noPosts().worth(0, 0, 1), BAD);
    }

    private static PairedComing noPosts() {
        PairedComing x = new PairedComing();
        x.guest();
        return x;
    }

    private void worthState() {
        c.at(4, "STATE: that GUEST has COME.");
        PairedComing x = Checks.posts(1, 1);
        Checks.guest(x, 3, 0);
        Checks.guest(x, 5, 0);
        Checks.guest(x, 1, 0);
        Checks.guest(x, 0, 4);
        Checks.guest(x, 2, 2);
        Checks.tell(x, "by +worth drop;");
        for (int g = 0; g < 4; g++) x.come(g, 0);
        x.leave(3);
        c.due("dropped", x.worth(0, 1, 1), STATE);
        c.due("holds room", x.worth(1, 1, 1), STATE);
        c.due("let go", x.worth(2, 1, 1), STATE);
        c.due("gone", x.worth(3, 1, 1), STATE);
        c.due("the same worth as it has", x.worth(1, 0, 5), STATE);
        c.due("not come", x.worth(4, 1, 9), 2);
        c.due("none of them changed", x.told(1, 6), 2);
        x.undo();
        x.undo();
        c.due("the fourth is undone", x.worth(3, 1, 6), 4);
        c.due("the third is not", x.worth(2, 1, 1), STATE);
    }

    private void chance() {
        c.at(5, "CHANCE of a GUEST becomes v: what it was.");
        PairedComing x = Checks.posts(1);
        Checks.guests(x, 9, 5);
        for (int g = 0; g < 9; g++) c.due("1 at first", x.chance(g, g), 1);
        for (int g = 0; g < 9; g++) c.due("each its own", x.chance(g, 9), g);
        c.due("9", x.chance(8, 0), 9);
        c.due("0", x.chance(8, 0), 0);
        x.let(8, 0);
        c.due("one that has come", x.chance(8, 9), 0);
        c.due("and again", x.chance(8, 1), 9);
        c.at(5, "BAD.");
        PairedComing y = Checks.posts(1);
        Checks.guests(y, 2, 5);
        for (int g : new int[] {LOW, -1, 2, 9, HIGH}) c.due("guest " + g, y.chance(g, 1), BAD);
        for (int v : new int[] {LOW, -1, 10, HIGH}) c.due("chance " + v, y.chance(0, v), BAD);
        c.due("unchanged", y.chance(0, 1), 1);
    }

    private void rank() {
        c.at(6, "RANK of a POST becomes v: what it was.");
        PairedComing x = Checks.posts(1, 1, 1, 1, 1, 1);
        for (int p = 0; p < 6; p++) c.due("post " + p, x.rank(p, 99), p);
        c.due("99", x.rank(5, 0), 99);
        c.due("0", x.rank(5, 7), 0);
        c.due("told", x.told(5, 1), 7);
        c.due("another's stays", x.told(4, 1), 99);
        c.at(6, "BAD");
        PairedComing y = Checks.posts(1, 1);
        for (int p : new int[] {LOW, -1, 2, 6, HIGH}) c.due("post " + p, y.rank(p, 1), BAD);
        for (int v : new int[] {LOW, -1, 100, HIGH}) c.due("rank " + v, y.rank(1, v), BAD);
        c.due("unchanged", y.told(1, 1), 1);
        Checks.guest(y, 0, 4);
        y.let(0, 1);
        c.due("somebody has come, but bad", y.rank(1, 100), BAD);
        c.at(6, "STATE: somebody has COME.");
        c.due("the post that holds it", y.rank(1, 5), STATE);
        c.due("another post", y.rank(0, 5), STATE);
        c.due("the rank it has", y.rank(0, 0), STATE);
        y.leave(0);
        c.due("gone, but it has come", y.rank(0, 5), STATE);
        c.due("unchanged", y.told(0, 1), 0);
        y.undo();
        y.undo();
        c.due("undone", y.rank(0, 5), 0);
        Checks.tell(y, "by +worth if worth>9;");
        y.come(0, 0);
        c.due("one came and was let go", y.rank(0, 6), STATE);
    }

    private void told() {
        c.at(7, "Of a POST: 0 ROOM, 1 RANK, 2 BUDGET");
        PairedComing x = new PairedComing();
        x.post(1, 0, 1);
        x.post(3, 99, 999);
        int[][] wants = {{1, 0, 1}, {3, 99, 999}};
        for (int p = 0; p < 2; p++) {
            for (int what = 0; what < 3; what++) c.due("post " + p + ", " + what, x.told(p, what), wants[p][what]);
        }
        c.at(7, "6 LINKS");
        Checks.guests(x, 9);
        c.due("none", x.told(0, 6), 0);
        for (int g = 0; g < 9; g++) x.worth(g, 0, g % 2 == 0 ? 1 : 99);
        c.due("all nine", x.told(0, 6), 9);
        c.due("the other has none", x.told(1, 6), 0);
        x.worth(8, 0, 0);
        c.due("one less", x.told(0, 6), 8);
        x.let(0, 0);
        c.due("one holds room: its link stays", x.told(0, 6), 8);
        c.at(7, "BAD.");
        for (int p : new int[] {LOW, -1, 2, 6, HIGH}) c.due("post " + p, x.told(p, 0), BAD);
        for (int what : Checks.FAR) c.due("what " + what, x.told(0, what), BAD);
        c.due("what 7", x.told(0, 7), BAD);
    }

    private void toldMarket() {
        PairedComing x = new PairedComing();
        x.post(3, 0, 10);
        x.post(1, 0, 7);
        Checks.guests(x, 9, 4, 7);
        c.at(7, "in THE MARKET: 3 ROOM that is not taken");
        c.due("all of it", x.told(0, 3), 3);
        x.let(0, 0);
        x.let(4, 0);
        c.due("one", x.told(0, 3), 1);
        x.let(8, 0);
        c.due("full", x.told(0, 3), 0);
        c.due("the room itself stays", x.told(0, 0), 3);
        c.at(7, "4 paid");
        c.due("4, 4, and 2 that were left", x.told(0, 4), 10);
        c.due("nothing", x.told(1, 4), 0);
        x.let(1, 1);
        c.due("all the budget at once", x.told(1, 4), 7);
        c.due("the budget itself stays", x.told(1, 2), 7);
        c.at(7, "5 the sum of 2 to the number of each GUEST it holds");
        c.due("1 + 16 + 256", x.told(0, 5), 273);
        c.due("2", x.told(1, 5), 2);
        x.leave(4);
        c.due("1 + 256", x.told(0, 5), 257);
        c.due("room again", x.told(0, 3), 1);
        c.due("paid stays", x.told(0, 4), 10);
        x.leave(0);
        x.leave(8);
        c.due("none", x.told(0, 5), 0);
        c.due("all room", x.told(0, 3), 3);
    }
}
