/** Promises 32 to 35, sentence by sentence: the least, the greatest, one beyond, empty, full, wrapped around, refused. */
public final class BoundariesOfSheetsTest {
    private static final int BAD = Checks.BAD, STATE = Checks.STATE, NONE = Checks.NONE;
    private static final int LOW = Checks.LOW, HIGH = Checks.HIGH;
    private static final int NULL = -11, INDEX = -12, CAST = -13, SIZE = -14;
    private static final int[] NO_SHEET = {LOW, -1, 4, HIGH};

    private final Checks c = new Checks();

    private BoundariesOfSheetsTest() throws java.io.IOException { }

    public static void main(String[] args) throws Exception {
        BoundariesOfSheetsTest t = new BoundariesOfSheetsTest();
        t.sheet();
        t.sheetRefused();
        t.lay();
        t.layWraps();
        t.layRefused();
        t.net();
        t.netFaults();
        t.netCells();
        t.netState();
        t.netEmpty();
        t.count();
        t.countBad();
        t.c.wholly(32, 35);
        t.c.finish();
    }

    /** One post, one guest: what a sheet's cell holds can be read as its worth. */
    private static PairedComing reader() {
        PairedComing x = Checks.posts(1);
        x.guest();
        return x;
    }

    private void sheet() {
        c.at(32, "A SHEET is a new row of CELLS 0: 1.");
        for (int k = 0; k < 4; k++) {
            for (int lane = 0; lane < 3; lane++) newRows(reader(), k, lane);
        }
        PairedComing x = reader();
        x.sheet(0, 0, 2);
        x.sheet(1, 2, 2);
        x.lay(0, 0, 5);
        c.due("each its own", x.net(1, 2, 0), 0);
        x.sheet(1, 1, 2);
        c.due("the other stays", x.net(0, 0, 0), 1);
    }

    private void newRows(PairedComing x, int k, int lane) {
        c.due("no cells", x.sheet(k, lane, 0), 1);
        c.due("none to lay", x.lay(k, 0, 1), INDEX);
        c.due("64 cells", x.sheet(k, lane, 64), 1);
        for (int i = 0; i < 64; i++) c.due("cell " + i + " is 0", x.net(k, lane, i), 0);
        for (int i = 0; i < 64; i++) x.lay(k, i, 7);
        c.due("laid", x.net(k, lane, 63), 1);
        c.due("a new one, shorter", x.sheet(k, lane, 1), 1);
        c.due("its cell is 0", x.net(k, lane, 0), 1);
        c.due("it has no more", x.net(k, lane, 1), INDEX);
        c.due("a new one, longer", x.sheet(k, lane, 64), 1);
        for (int i = 0; i < 64; i++) c.due("cell " + i + " is 0 again", x.net(k, lane, i), 0);
    }

    private void sheetRefused() {
        PairedComing x = reader();
        x.sheet(3, 1, 2);
        x.lay(3, 1, 9);
        c.at(32, "BAD: also n above 64");
        for (int n : new int[] {65, 66, 1000, HIGH}) c.due("n " + n, x.sheet(3, 0, n), BAD);
        for (int k : NO_SHEET) c.due("sheet " + k, x.sheet(k, 0, 1), BAD);
        for (int lane : new int[] {LOW, -1, 3, HIGH}) c.due("lane " + lane, x.sheet(3, lane, 1), BAD);
        for (int k : NO_SHEET) c.due("below 0, but sheet " + k, x.sheet(k, 0, -1), BAD);
        for (int lane : new int[] {LOW, -1, 3, HIGH}) c.due("below 0, but lane " + lane, x.sheet(3, lane, -1), BAD);
        c.at(32, "-10 - 4.");
        for (int n : new int[] {-1, -2, -64, LOW + 1, LOW}) c.due("n " + n, x.sheet(3, 0, n), SIZE);
        c.due("none that was nothing became one", x.sheet(0, 0, -1), SIZE);
        c.due("it is nothing still", x.count(6), NONE);
        c.due("refused: the row stays", x.net(3, 1, 1), 1);
        c.due("refused: its length stays", x.net(3, 1, 2), INDEX);
    }

    private void lay() {
        c.at(33, "CELL i of a SHEET becomes v (its lowest bits): 1.");
        for (int k = 0; k < 4; k++) {
            PairedComing x = reader();
            for (int other = 0; other < 4; other++) x.sheet(other, k % 3, 64);
            for (int i = 0; i < 64; i++) c.due("lay " + i, x.lay(k, i, i + 36), 1);
            for (int i = 0; i < 64; i++) {
                x.net(k, k % 3, i);
                c.due("sheet " + k + ", cell " + i, x.best(), i + 36);
            }
            for (int other = 0; other < 4; other++) {
                if (other == k) continue;
                x.net(other, k % 3, 63);
                c.due("another sheet stays", x.best(), 0);
            }
        }
    }

    /** What cell 0 of a lane holds behind the laying of v: a worth, or -100. */
    private static int laid(int lane, int v) {
        PairedComing x = reader();
        x.sheet(0, lane, 1);
        x.lay(0, 0, v);
        int answer = x.net(0, lane, 0);
        return answer < 0 ? answer : x.best();
    }

    private void layWraps() {
        c.at(33, "CELL i of a SHEET becomes v (its lowest bits): 1.");
        int[] fits = {0, 1, 99};
        for (int lane = 0; lane < 3; lane++) {
            for (int v : fits) c.due("lane " + lane + ", " + v, laid(lane, v), v);
            for (int v : new int[] {-1, 100, 127, 128, 255}) c.due("lane " + lane + ", " + v, laid(lane, v), -100);
        }
        int[] wrapped = {256, 257, 256 + 99, -256, -256 + 99, 65536 + 98, LOW, LOW + 97, 0x7fffff00 + 96};
        int[] wants = {0, 1, 99, 0, 99, 98, 0, 97, 96};
        for (int i = 0; i < wrapped.length; i++) c.due("bytes, " + wrapped[i], laid(0, wrapped[i]), wants[i]);
        for (int v : new int[] {256 + 100, 256 + 128, 256 + 255, -2, HIGH}) c.due("bytes, " + v, laid(0, v), -100);
        int[] wider = {65536, 65536 + 99, -65536, -65536 + 99, LOW, LOW + 97, 0x7fff0000 + 96};
        int[] due = {0, 99, 0, 99, 0, 97, 96};
        for (int i = 0; i < wider.length; i++) c.due("shorts, " + wider[i], laid(1, wider[i]), due[i]);
        for (int v : new int[] {256, 257, 32767, 32768, 65535, 65536 + 100, HIGH}) c.due("shorts, " + v, laid(1, v), -100);
        for (int v : new int[] {256, 65536, 65536 + 99, LOW, LOW + 97, HIGH, 1 << 30}) c.due("ints, " + v, laid(2, v), -100);
    }

    private void layRefused() {
        PairedComing x = reader();
        c.at(33, "BAD: k");
        for (int k : NO_SHEET) c.due("sheet " + k, x.lay(k, 0, 1), BAD);
        for (int k : NO_SHEET) c.due("sheet " + k + ", no such cell", x.lay(k, -1, 1), BAD);
        c.at(33, "-10 less the FAULT: NULL, INDEX.");
        for (int k = 0; k < 4; k++) c.due("nothing", x.lay(k, 0, 1), NULL);
        c.due("nothing is ahead of the index", x.lay(0, -1, 1), NULL);
        c.due("nothing is ahead of the index", x.lay(0, 64, 1), NULL);
        x.sheet(0, 0, 0);
        c.due("no cells", x.lay(0, 0, 1), INDEX);
        c.due("no cells", x.lay(0, -1, 1), INDEX);
        x.sheet(0, 0, 64);
        for (int i : new int[] {LOW, -64, -1, 64, 65, 128, HIGH}) c.due("cell " + i, x.lay(0, i, 1), INDEX);
        for (int i = 0; i < 64; i++) c.due("refused: cell " + i + " stays", x.net(0, 0, i), 0);
        x.sheet(1, 1, 3);
        c.due("cell 2 of three", x.lay(1, 2, 1), 1);
        c.due("cell 3 of three", x.lay(1, 3, 1), INDEX);
    }

    /** Two posts, two guests, sheet 1 of ints with 1, 2, .. in n cells. */
    private static PairedComing square(int n) {
        PairedComing x = Checks.posts(1, 1);
        Checks.guests(x, 2);
        x.sheet(1, 2, n);
        for (int i = 0; i < n; i++) x.lay(1, i, i + 1);
        return x;
    }

    private void net() {
        c.at(34, "WORTHS of all GUESTS are read of a SHEET taken as of a lane, GUEST by GUEST, for each POST by POST, "
            + "from CELL f on: how many became others.");
        PairedComing x = square(5);
        c.due("all four", x.net(1, 2, 0), 4);
        c.due("none", x.net(1, 2, 0), 0);
        int[] wants = {1, 2, 3, 4};
        for (int i = 0; i < 4; i++) c.due("worth " + i, x.worth(i / 2, i % 2, wants[i]), wants[i]);
        c.due("the last f there may be", x.net(1, 2, 1), 4);
        for (int i = 0; i < 4; i++) c.due("worth " + i, x.worth(i / 2, i % 2, wants[i]), wants[i] + 1);
        x.worth(1, 1, 9);
        c.due("one", x.net(1, 2, 0), 1);
        for (int i = 0; i < 5; i++) x.lay(1, i, 0);
        c.due("to no links", x.net(1, 2, 0), 4);
        c.due("no links", x.count(3), 0);
        x.lay(1, 3, 99);
        c.due("99", x.net(1, 2, 0), 1);
        c.due("99", x.best(), 99);
        PairedComing most = Checks.posts(2, 2, 2, 2, 1, 1);
        Checks.guests(most, 9);
        most.sheet(3, 0, 64);
        for (int i = 0; i < 64; i++) most.lay(3, i, i + 1);
        c.due("54 cells", most.net(3, 0, 0), 54);
        c.due("up to the last cell", most.net(3, 0, 10), 54);
        c.due("cell 63", most.worth(8, 5, 0), 64);
        c.due("cell 10", most.worth(0, 0, 0), 11);
        c.due("one beyond", most.net(3, 0, 11), INDEX);
    }

    private void netFaults() {
        PairedComing x = square(5);
        x.sheet(2, 0, 5);
        c.at(34, "BAD: k, lane");
        for (int k : NO_SHEET) c.due("sheet " + k, x.net(k, 2, 0), BAD);
        for (int lane : new int[] {LOW, -1, 3, HIGH}) c.due("lane " + lane, x.net(1, lane, 0), BAD);
        for (int lane : new int[] {LOW, -1, 3, HIGH}) c.due("nothing, but lane " + lane, x.net(0, lane, 0), BAD);
        c.at(34, "-10 less the FAULT: NULL, CAST, then CELL by CELL INDEX");
        for (int lane = 0; lane < 3; lane++) {
            c.due("nothing", x.net(0, lane, 0), NULL);
            c.due("nothing, and no such cell", x.net(3, lane, -1), NULL);
        }
        c.due("ints as bytes", x.net(1, 0, 0), CAST);
        c.due("ints as shorts", x.net(1, 1, 0), CAST);
        c.due("bytes as shorts", x.net(2, 1, 0), CAST);
        c.due("bytes as ints", x.net(2, 2, 0), CAST);
        x.sheet(2, 1, 5);
        c.due("shorts as bytes", x.net(2, 0, 0), CAST);
        c.due("shorts as ints", x.net(2, 2, 0), CAST);
        c.due("shorts as shorts", x.net(2, 1, 0), 0);
        c.due("another lane is ahead of the index", x.net(1, 1, -1), CAST);
        c.due("another lane is ahead of the index", x.net(1, 1, 99), CAST);
        for (int f : new int[] {LOW, LOW + 1, -5, -1, 2, 3, 4, 5, 64, HIGH - 3, HIGH - 2, HIGH}) {
            c.due("from cell " + f, x.net(1, 2, f), INDEX);
        }
        x.sheet(1, 2, 0);
        c.due("no cells", x.net(1, 2, 0), INDEX);
        x.sheet(1, 2, 3);
        c.due("one cell too few", x.net(1, 2, 0), INDEX);
        x.sheet(1, 2, 4);
        c.due("just enough", x.net(1, 2, 0), 0);
    }

    private void netCells() {
        c.at(34, "-100 less i: CELL f + i is no WORTH");
        PairedComing x = square(6);
        for (int bad : new int[] {-1, 100, LOW, HIGH}) {
            for (int i = 0; i < 4; i++) {
                for (int f = 0; f <= 2; f++) {
                    x.lay(1, f + i, bad);
                    c.due("cell " + f + " + " + i + " is " + bad, x.net(1, 2, f), -100 - i);
                    x.lay(1, f + i, 5);
                }
            }
        }
        c.at(34, "the first met: then none changed.");
        PairedComing y = square(5);
        y.lay(1, 3, 100);
        c.due("no worth at 3", y.net(1, 2, 0), -103);
        c.due("none changed", y.count(3), 0);
        y.lay(1, 1, -1);
        c.due("the first of two", y.net(1, 2, 0), -101);
        c.due("no worth ahead of no cell", y.net(1, 2, 3), -100);
        c.due("no worth at the last cell but one", y.net(1, 2, 2), -101);
        y.lay(1, 3, 5);
        y.lay(1, 1, 5);
        c.due("no cell alone", y.net(1, 2, 2), INDEX);
        y.lay(1, 4, 100);
        c.due("no cell is met behind the one that is no worth", y.net(1, 2, 4), -100);
        c.due("none changed", y.count(3), 0);
        c.due("what is not read is not asked", y.net(1, 2, 0), 4);
        PairedComing most = Checks.posts(2, 2, 2, 2, 1, 1);
        Checks.guests(most, 9);
        most.sheet(0, 1, 64);
        most.lay(0, 63, 100);
        c.due("the last of 54", most.net(0, 1, 10), -153);
    }

    private void netState() {
        c.at(34, "STATE: somebody has COME");
        PairedComing x = square(5);
        x.net(1, 2, 0);
        x.let(0, 0);
        c.due("it holds room", x.net(1, 2, 1), STATE);
        c.due("no worth would change", x.net(1, 2, 0), STATE);
        x.leave(0);
        c.due("it is gone", x.net(1, 2, 1), STATE);
        c.due("none changed", x.worth(1, 1, 4), 4);
        c.at(34, "the first met: then none changed.");
        c.due("bad is ahead", x.net(1, 3, 1), BAD);
        c.due("null is ahead", x.net(0, 2, 1), NULL);
        c.due("cast is ahead", x.net(1, 0, 1), CAST);
        c.due("index is ahead", x.net(1, 2, 2), INDEX);
        x.lay(1, 1, 100);
        c.due("no worth is ahead", x.net(1, 2, 1), -100);
        x.lay(1, 1, 2);
        x.undo();
        x.undo();
        c.due("undone", x.net(1, 2, 1), 4);
        Checks.tell(x, "by +worth if worth>99;");
        x.come(1, 0);
        c.due("one was let go", x.net(1, 2, 0), STATE);
    }

    private void netEmpty() {
        c.at(34, "how many became others.");
        PairedComing none = new PairedComing();
        none.sheet(0, 0, 0);
        for (int f : new int[] {LOW, -1, 0, 1, HIGH}) c.due("nobody, no posts, from " + f, none.net(0, 0, f), 0);
        none.post(1, 0, 1);
        c.due("nobody", none.net(0, 0, 0), 0);
        PairedComing noPosts = new PairedComing();
        noPosts.guest();
        noPosts.sheet(0, 0, 0);
        c.due("no posts", noPosts.net(0, 0, 0), 0);
        c.due("no posts, but another lane", noPosts.net(0, 1, 0), CAST);
        c.due("no posts, but nothing", noPosts.net(1, 0, 0), NULL);
    }

    private void count() {
        PairedComing x = Checks.posts(2, 2, 2, 2, 1, 1);
        c.at(35, "How many: 0 POSTS");
        c.due("six", x.count(0), 6);
        c.at(35, "1 GUESTS");
        c.due("none", x.count(1), 0);
        for (int g = 0; g < 9; g++) Checks.guest(x, 1, 2, 3, 4, 5, 99);
        c.due("nine", x.count(1), 9);
        c.at(35, "2 RULES");
        c.due("none", x.count(2), 0);
        for (int r = 0; r < 6; r++) Checks.tell(x, "by+left;");
        c.due("six", x.count(2), 6);
        c.at(35, "3 LINKS");
        c.due("54", x.count(3), 54);
        x.worth(8, 5, 0);
        c.due("53", x.count(3), 53);
        c.at(35, "4 ROOMS");
        c.due("ten", x.count(4), 10);
        x.let(0, 0);
        c.due("ten, taken or not", x.count(4), 10);
        c.at(35, "5 bytes on THE TAPE");
        c.due("none", x.count(5), 0);
        for (int i = 1; i <= 20; i++) {
            x.feed(0L);
            c.due("fed", x.count(5), 8 * i);
        }
        x.end(1);
        c.due("one", x.count(5), 1);
        c.at(35, "6 CELLS of SHEET 0 (NONE: nothing)");
        c.due("nothing", x.count(6), NONE);
        x.sheet(1, 0, 5);
        c.due("nothing still", x.count(6), NONE);
        x.sheet(0, 2, 0);
        c.due("none", x.count(6), 0);
        x.sheet(0, 1, 64);
        c.due("64", x.count(6), 64);
    }

    private void countBad() {
        c.at(35, "BAD.");
        PairedComing x = Checks.posts(1);
        c.due("what 7", x.count(7), BAD);
        for (int what = 8; what <= 20; what++) c.due("what " + what, x.count(what), BAD);
        for (int what : Checks.FAR) c.due("what " + what, x.count(what), BAD);
    }
}
