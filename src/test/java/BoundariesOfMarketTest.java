/** Promises 27 to 31, sentence by sentence: the least, the greatest, one beyond, empty, full, refused. */
public final class BoundariesOfMarketTest {
    private static final int BAD = Checks.BAD, STATE = Checks.STATE, NONE = Checks.NONE;
    private static final int LOW = Checks.LOW, HIGH = Checks.HIGH;
    private static final int[] NO_GUEST_OF_2 = {LOW, -1, 2, 9, HIGH};

    private final Checks c = new Checks();

    private BoundariesOfMarketTest() throws java.io.IOException { }

    public static void main(String[] args) throws Exception {
        BoundariesOfMarketTest t = new BoundariesOfMarketTest();
        t.come();
        t.comeDrops();
        t.comeRefused();
        t.let();
        t.letRefused();
        t.leave();
        t.leaveRefused();
        t.undo();
        t.undoDrop();
        t.undoAll();
        t.market();
        t.marketGuests();
        t.marketBad();
        t.c.wholly(27, 31);
        t.c.finish();
    }

    private void come() {
        c.at(27, "A GUEST COMES by a RULE: the POST");
        PairedComing x = Checks.posts(1, 1, 1, 1, 1, 1);
        for (int g = 0; g < 9; g++) Checks.guest(x, 5, 5, 5, 5, 5, 5);
        Checks.tell(x, "by -number;");
        Checks.tell(x, "by +number;");
        c.due("post 0", x.come(8, 0), 0);
        c.due("post 5", x.come(0, 1), 5);
        c.due("by another rule", x.come(4, 0), 1);
        c.due("post 4", x.come(3, 1), 4);
        c.due("post 2", x.come(5, 0), 2);
        c.due("the last room", x.come(6, 0), 3);
        c.at(27, "NONE: it is let go (it has COME all the same)");
        c.due("no room is left", x.come(7, 0), NONE);
        c.due("it has come", x.market(2), 7);
        c.due("it is an act", x.market(4), 7);
        c.due("it can not come again", x.come(7, 1), STATE);
        c.due("nor by hand", x.let(7, 0), STATE);
        PairedComing none = new PairedComing();
        none.guest();
        Checks.tell(none, "by -number;");
        c.due("no posts", none.come(0, 0), NONE);
        c.due("it has come", none.market(2), 1);
        PairedComing spent = new PairedComing();
        spent.post(3, 0, 9);
        Checks.guest(spent, 9);
        Checks.guest(spent, 1);
        Checks.guest(spent, 0);
        Checks.tell(spent, "by +worth drop;");
        c.due("no link", spent.come(2, 0), NONE);
        c.due("all the budget", spent.come(0, 0), 0);
        c.due("paid is budget", spent.come(1, 0), NONE);
        c.due("nothing is dropped", spent.told(0, 5), 1);
    }

    private void comeDrops() {
        c.at(27, "A GUEST COMES by a RULE: the POST");
        PairedComing x = new PairedComing();
        x.post(2, 0, 30);
        for (int worth : new int[] {5, 5, 5, 6, 6, 99, 99}) Checks.guest(x, worth);
        Checks.tell(x, "by +worth drop;");
        Checks.tell(x, "by +worth;");
        x.come(1, 0);
        x.come(0, 0);
        c.due("as much worth drops nobody", x.come(2, 0), NONE);
        c.due("a rule without drop", x.come(4, 1), NONE);
        c.due("more worth drops", x.come(3, 0), 0);
        c.due("the latest of those of least worth: guest 0", x.told(0, 5), 2 + 8);
        c.due("room stays full", x.told(0, 3), 0);
        c.due("5 + 5 + 6", x.told(0, 4), 16);
        c.due("99 drops the least: guest 1", x.come(5, 0), 0);
        c.due("guests 3 and 5", x.told(0, 5), 8 + 32);
        c.due("what is left of 30", x.told(0, 4), 30);
        c.due("paid is budget: none is dropped", x.come(6, 0), NONE);
        c.due("guests 3 and 5 stay", x.told(0, 5), 8 + 32);
    }

    private void comeRefused() {
        PairedComing x = Checks.posts(1);
        Checks.guests(x, 2, 5);
        c.at(27, "BAD");
        c.due("no rule yet", x.come(0, 0), BAD);
        Checks.tell(x, "by +worth;");
        for (int g : NO_GUEST_OF_2) c.due("guest " + g, x.come(g, 0), BAD);
        for (int r : new int[] {LOW, -1, 1, 6, HIGH}) c.due("rule " + r, x.come(0, r), BAD);
        c.due("nobody has come by that", x.market(2), 0);
        c.at(27, "STATE: it has COME.");
        x.come(0, 0);
        c.due("it holds room", x.come(0, 0), STATE);
        c.due("bad is ahead", x.come(0, 1), BAD);
        x.leave(0);
        c.due("it is gone", x.come(0, 0), STATE);
        c.due("one came", x.market(2), 1);
        c.due("two acts", x.market(4), 2);
        x.undo();
        x.undo();
        c.due("undone", x.come(0, 0), 0);
    }

    private void let() {
        c.at(28, "A GUEST COMES to a POST by hand: what that pays.");
        PairedComing x = new PairedComing();
        x.post(3, 0, 100);
        x.post(1, 0, 1);
        Checks.guest(x, 99, 99);
        Checks.guest(x, 1, 99);
        Checks.guest(x, 99, 1);
        c.due("99", x.let(0, 0), 99);
        c.due("1, just what is left", x.let(1, 0), 1);
        c.due("1 of 1", x.let(2, 1), 1);
        PairedComing y = new PairedComing();
        y.post(2, 0, 100);
        Checks.guests(y, 2, 99);
        y.let(0, 0);
        c.due("1 of 99", y.let(1, 0), 1);
        c.due("paid", y.told(0, 4), 100);
        c.due("kept", y.market(1), 198);
        PairedComing least = new PairedComing();
        least.post(1, 0, 1);
        Checks.guest(least, 99);
        c.due("1 of 99 at once", least.let(0, 0), 1);
        c.due("it has come", least.market(2), 1);
        c.due("it holds room", least.market(10), 0);
    }

    private void letRefused() {
        PairedComing x = new PairedComing();
        x.post(1, 0, 999);
        x.post(3, 0, 9);
        Checks.guest(x, 5, 9);
        Checks.guest(x, 5, 9);
        c.at(28, "BAD");
        for (int g : NO_GUEST_OF_2) c.due("guest " + g, x.let(g, 0), BAD);
        for (int p : new int[] {LOW, -1, 2, 6, HIGH}) c.due("post " + p, x.let(0, p), BAD);
        c.at(28, "STATE: it has COME");
        x.let(0, 1);
        c.due("it holds room", x.let(0, 0), STATE);
        c.due("where it is", x.let(0, 1), STATE);
        c.due("bad is ahead", x.let(0, 2), BAD);
        x.leave(0);
        c.due("it is gone", x.let(0, 0), STATE);
        c.at(28, "paid is BUDGET.");
        c.due("there is room, but all is paid", x.let(1, 1), STATE);
        c.due("room there is", x.told(1, 3), 3);
        c.at(28, "no LINK");
        x.worth(1, 0, 0);
        c.due("none", x.let(1, 0), STATE);
        x.worth(1, 0, 1);
        c.due("one", x.let(1, 0), 1);
        c.at(28, "no ROOM");
        int g = Checks.guest(x, 99, 0);
        c.due("full, and more worth drops nobody by hand", x.let(g, 0), STATE);
        c.due("as before", x.told(0, 5), 2);
        c.due("it has not come", x.market(2), 2);
        x.leave(1);
        c.due("room again", x.let(g, 0), 99);
    }

    private void leave() {
        c.at(29, "A GUEST that holds ROOM leaves: the POST (what was paid stays).");
        PairedComing x = Checks.posts(1, 1, 1, 1, 1, 3);
        for (int g = 0; g < 9; g++) Checks.guest(x, 4, 4, 4, 4, 4, 4);
        x.let(0, 0);
        x.let(8, 5);
        x.let(7, 5);
        x.let(6, 5);
        c.due("post 0", x.leave(0), 0);
        c.due("post 5", x.leave(7), 5);
        c.due("the others stay", x.told(5, 5), 64 + 256);
        c.due("room", x.told(5, 3), 1);
        c.due("what was paid stays", x.told(5, 4), 12);
        c.due("value stays", x.market(0), 16);
        c.due("kept does not", x.market(1), 8);
        c.due("have come", x.market(2), 4);
        c.due("hold room", x.market(3), 2);
        c.due("the room is had again", x.let(1, 5), 4);
        c.due("paid for that too", x.told(5, 4), 16);
    }

    private void leaveRefused() {
        PairedComing x = Checks.posts(1);
        Checks.guest(x, 5);
        Checks.guest(x, 6);
        Checks.tell(x, "by +worth drop;");
        Checks.tell(x, "by +worth if worth>9;");
        c.at(29, "BAD");
        for (int g : NO_GUEST_OF_2) c.due("guest " + g, x.leave(g), BAD);
        c.at(29, "STATE: it holds none.");
        c.due("not come", x.leave(0), STATE);
        x.come(0, 1);
        c.due("let go", x.leave(0), STATE);
        x.undo();
        x.come(0, 0);
        x.come(1, 0);
        c.due("dropped", x.leave(0), STATE);
        c.due("holds room", x.leave(1), 0);
        c.due("gone", x.leave(1), STATE);
        c.due("three acts", x.market(4), 3);
    }

    private void undo() {
        c.at(30, "NONE.");
        PairedComing x = Checks.posts(1);
        c.due("nobody", x.undo(), NONE);
        Checks.guest(x, 5);
        Checks.guest(x, 6);
        Checks.tell(x, "by +worth;");
        c.due("no act yet", x.undo(), NONE);
        x.come(5, 0);
        x.let(0, 1);
        x.leave(0);
        c.due("what was refused is no act", x.undo(), NONE);
        c.at(30, "The latest ACT is undone: how many more can be.");
        x.let(0, 0);
        x.leave(0);
        x.come(1, 0);
        c.due("the coming", x.undo(), 2);
        c.due("guest 1 has not come", x.worth(1, 0, 7), 6);
        c.due("paid by guest 0 alone", x.told(0, 4), 5);
        c.due("the leaving", x.undo(), 1);
        c.due("guest 0 holds room", x.market(10), 0);
        c.due("it can leave again", x.leave(0), 0);
        c.due("and that is undone", x.undo(), 1);
        c.due("the letting", x.undo(), 0);
        c.due("nothing paid", x.told(0, 4), 0);
        c.due("all room", x.told(0, 3), 1);
        c.due("guest 0 has not come", x.market(2), 0);
        c.due("none more", x.undo(), NONE);
        c.due("it can come again", x.let(0, 0), 5);
    }

    private void undoDrop() {
        c.at(30, "The latest ACT is undone: how many more can be.");
        PairedComing x = new PairedComing();
        x.post(2, 0, 20);
        for (int worth : new int[] {5, 5, 9, 9, 9}) Checks.guest(x, worth);
        Checks.tell(x, "by +worth drop;");
        Checks.tell(x, "by +worth if worth>9;");
        x.come(1, 0);
        x.come(0, 0);
        x.come(2, 0);
        x.come(4, 1);
        x.come(3, 0);
        c.due("5 + 5 + 9 and 1 left", x.told(0, 4), 20);
        c.due("guests 2 and 3", x.told(0, 5), 12);
        c.due("the second drop", x.undo(), 4);
        c.due("guests 1 and 2", x.told(0, 5), 6);
        c.due("what it paid, not its worth, is back", x.told(0, 4), 19);
        c.due("one that was let go", x.undo(), 3);
        c.due("nothing else changed", x.told(0, 5), 6);
        c.due("the first drop", x.undo(), 2);
        c.due("guests 0 and 1", x.told(0, 5), 3);
        c.due("full", x.told(0, 3), 0);
        c.due("both have come", x.market(2), 2);
        x.come(3, 0);
        c.due("still the latest that came is dropped: guest 0", x.told(0, 5), 2 + 8);
    }

    private void undoAll() {
        c.at(Checks.TERMS, "each can be undone (all of them)");
        PairedComing x = Checks.posts(3, 3, 3, 1);
        for (int g = 0; g < 9; g++) Checks.guest(x, 1 + g, 1 + g, 1 + g, 1 + g);
        Checks.tell(x, "by -number drop;");
        for (int g = 0; g < 9; g++) {
            x.come(g, 0);
            x.leave(g);
        }
        c.due("as many as there may be", x.market(4), 18);
        c.due("value", x.market(0), 45);
        for (int left = 17; left >= 0; left--) c.due("undone to " + left, x.undo(), left);
        c.due("none more", x.undo(), NONE);
        for (int what = 0; what < 5; what++) c.due("market " + what, x.market(what), 0);
        for (int p = 0; p < 4; p++) {
            c.due("all room", x.told(p, 3), x.told(p, 0));
            c.due("nothing paid", x.told(p, 4), 0);
            c.due("holds none", x.told(p, 5), 0);
        }
        // Drops do not use up what can be undone.
        PairedComing one = Checks.posts(1);
        for (int g = 0; g < 9; g++) Checks.guest(one, 1 + g);
        Checks.tell(one, "by +worth drop;");
        for (int g = 0; g < 9; g++) one.come(g, 0);
        one.leave(8);
        for (int left = 9; left >= 0; left--) {
            c.due("undone to " + left, one.undo(), left);
            c.due("the one before holds room", one.told(0, 5), left == 0 ? 0 : 1 << left - 1);
        }
    }

    private void market() {
        PairedComing x = new PairedComing();
        x.post(1, 0, 7);
        x.post(1, 0, 999);
        Checks.guest(x, 5, 0);
        Checks.guest(x, 9, 0);
        Checks.guest(x, 0, 99);
        Checks.guest(x, 0, 0);
        Checks.tell(x, "by +worth drop;");
        x.come(0, 0);
        x.come(1, 0);
        x.come(2, 0);
        x.come(3, 0);
        c.at(31, "Of THE MARKET: 0 VALUE");
        c.due("5, the 2 left, 99", x.market(0), 106);
        c.at(31, "1 KEPT");
        c.due("9 + 99", x.market(1), 108);
        c.at(31, "2 GUESTS who have COME");
        c.due("dropped and let go ones too", x.market(2), 4);
        c.at(31, "3 those who hold ROOM");
        c.due("two", x.market(3), 2);
        c.at(31, "4 ACTS");
        c.due("four", x.market(4), 4);
        x.leave(2);
        int[] gone = {106, 9, 4, 1, 5};
        for (int what = 0; what < 5; what++) c.due("one gone, " + what, x.market(what), gone[what]);
        x.leave(1);
        int[] empty = {106, 0, 4, 0, 6};
        for (int what = 0; what < 5; what++) c.due("all gone, " + what, x.market(what), empty[what]);
        PairedComing most = Checks.posts(3, 3, 3, 1);
        Checks.guests(most, 9, 99, 99, 99, 99);
        for (int g = 0; g < 9; g++) most.let(g, g / 3);
        int[] all = {891, 891, 9, 9, 9};
        for (int what = 0; what < 5; what++) c.due("the most, " + what, most.market(what), all[what]);
    }

    private void marketGuests() {
        c.at(31, "10 and g: the POST of a GUEST (NONE: not COME, let go, dropped, gone)");
        PairedComing x = Checks.posts(1, 1);
        Checks.guest(x, 5, 0);
        Checks.guest(x, 9, 0);
        Checks.guest(x, 0, 9);
        Checks.guest(x, 1, 0);
        Checks.guest(x, 9, 9);
        Checks.tell(x, "by +worth drop;");
        for (int g = 0; g < 5; g++) c.due("not come, guest " + g, x.market(10 + g), NONE);
        for (int g = 0; g < 4; g++) x.come(g, 0);
        int[] wants = {NONE, 0, 1, NONE, NONE};
        String[] why = {"dropped", "post 0", "post 1", "let go", "not come"};
        for (int g = 0; g < 5; g++) c.due(why[g], x.market(10 + g), wants[g]);
        x.leave(2);
        c.due("gone", x.market(12), NONE);
        x.undo();
        c.due("back", x.market(12), 1);
    }

    private void marketBad() {
        c.at(31, "BAD.");
        PairedComing x = Checks.posts(1);
        c.due("guest 0 of none", x.market(10), BAD);
        Checks.guests(x, 2, 5);
        c.due("guest 1 of two", x.market(11), NONE);
        c.due("guest 2 of two", x.market(12), BAD);
        for (int what = 5; what <= 9; what++) c.due("what " + what, x.market(what), BAD);
        for (int what : Checks.FAR) c.due("what " + what, x.market(what), BAD);
        Checks.guests(x, 7, 5);
        c.due("guest 8 of nine", x.market(18), NONE);
        c.due("guest 9 of nine", x.market(19), BAD);
    }
}
