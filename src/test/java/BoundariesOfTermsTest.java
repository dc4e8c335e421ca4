import java.util.List;

/** The document's terms, where a sentence names a boundary that no promise says again. */
public final class BoundariesOfTermsTest {
    private static final int BAD = Checks.BAD, STATE = Checks.STATE, FULL = Checks.FULL, NONE = Checks.NONE;

    private final Checks c = new Checks();

    private BoundariesOfTermsTest() throws java.io.IOException { }

    public static void main(String[] args) throws Exception {
        BoundariesOfTermsTest t = new BoundariesOfTermsTest();
        t.answers();
        t.limits();
        t.everyByte();
        t.longestTokens();
        t.numbers();
        t.text();
        t.faultsFirstMet();
        t.almostNames();
        t.faultsOneByOne();
        t.keysOfPosts();
        t.dividedDown();
        t.tests();
        t.whoIsToBeHad();
        t.whichOfThem();
        t.whoIsLetGo();
        t.pays();
        t.valueAndKept();
        t.runs();
        t.best();
        t.means();
        t.batches();
        t.worst();
        t.market();
        t.sheets();
        t.c.finish();
    }

    private void terms(String sentence) { c.at(Checks.TERMS, sentence); }

    private void answers() {
        terms("Answers: BAD -1");
        c.due("BAD", PairedComing.BAD, -1);
        terms("STATE -2 (as told)");
        c.due("STATE", PairedComing.STATE, -2);
        terms("FULL -3");
        c.due("FULL", PairedComing.FULL, -3);
        terms("NONE -4 (there is none)");
        c.due("NONE", PairedComing.NONE, -4);
        terms("the first that fits");
        PairedComing x = Checks.posts(3, 3, 3, 1);
        Checks.guest(x, 5);
        x.let(0, 0);
        c.due("bad, state and full", x.post(4, 0, 1), BAD);
        c.due("state and full", x.post(1, 0, 1), STATE);
        x.undo();
        c.due("full", x.post(1, 0, 1), FULL);
    }

    private void limits() {
        terms("POSTS (6) are numbered as they come");
        PairedComing x = new PairedComing();
        for (int p = 0; p < 6; p++) c.due("post " + p, x.post(1, 0, 1), p);
        c.due("a seventh", x.post(1, 0, 1), FULL);
        terms("GUESTS (9) are numbered as they come");
        for (int g = 0; g < 9; g++) c.due("guest " + g, x.guest(), g);
        c.due("a tenth", x.guest(), FULL);
        terms("RULES (6) are numbered as they come.");
        for (int r = 0; r < 6; r++) c.due("rule " + r, Checks.tell(x, "by+left;"), r);
        c.due("a seventh", Checks.tell(x, "by+left;"), FULL);
        terms("each with a ROOM (1 to 3), a RANK (0 to 99), a BUDGET (1 to 999)");
        c.due("the least", new PairedComing().post(1, 0, 1), 0);
        c.due("the greatest", new PairedComing().post(3, 99, 999), 0);
        int[][] beyond = {{0, 0, 1}, {4, 0, 1}, {1, -1, 1}, {1, 100, 1}, {1, 0, 0}, {1, 0, 1000}};
        for (int[] b : beyond) c.due(java.util.Arrays.toString(b), new PairedComing().post(b[0], b[1], b[2]), BAD);
        terms("all ROOMS together at most 10");
        PairedComing y = Checks.posts(3, 3, 3);
        c.due("11", y.post(2, 0, 1), FULL);
        c.due("10", y.post(1, 0, 1), 3);
        terms("CHANCE (0 to 9; 1 at first)");
        c.due("at first", x.chance(8, 9), 1);
        c.due("9", x.chance(8, 0), 9);
        c.due("0", x.chance(8, 10), BAD);
        terms("WORTH (0: no LINK, at first; to 99)");
        c.due("at first", x.worth(8, 5, 99), 0);
        c.due("99", x.worth(8, 5, 0), 99);
        c.due("no link", x.told(5, 6), 0);
        terms("THE TAPE has 160 bytes, places from 0.");
        PairedComing z = new PairedComing();
        for (int i = 1; i <= 20; i++) c.due("bytes", z.feed(0x2020202020202020L), 8 * i);
        c.due("no more", z.feed(0L), FULL);
        c.due("the end is place 160", z.rule(), -170);
        z.feed(0L);
        c.due("the first is place 0", z.rule(), -10);
    }

    private void fault(String text, int place, int which) {
        PairedComing x = new PairedComing();
        c.due("rule '" + text + "'", Checks.tell(x, text), -10 - place);
        c.due("fault of '" + text + "'", x.fault(), which);
    }

    private void good(String text) {
        PairedComing x = new PairedComing();
        c.due("rule '" + text + "'", Checks.tell(x, text), 0);
        c.due("fault of '" + text + "'", x.fault(), 0);
    }

    /** Each byte alone, and each behind a key, where a sign may stand or a name go on. */
    private void everyByte() {
        terms("TOKENS, each as long as may be, blanks (32) between: NAMES (a .. z), NUMBERS (1 to 3 figures), one + - , < > ;");
        for (int b = 0; b < 256; b++) {
            String one = String.valueOf((char) b);
            boolean letter = b >= 'a' && b <= 'z', figure = b >= '0' && b <= '9', sign = "+-,<>;".indexOf(b) >= 0;
            if (b == 32) fault(one, 1, 2);
            else fault(one, 0, figure || sign ? 2 : 1);
            String behind = "by+left" + one;
            if (b == 32 || b == ',') fault(behind, 8, 2);
            else if (b == ';') good(behind);
            else if (letter) fault(behind, 3, 1);
            else fault(behind, 7, figure || sign ? 2 : 1);
        }
    }

    private void longestTokens() {
        terms("TOKENS, each as long as may be, blanks (32) between");
        good("by+left if left>1and room<22drop;");
        fault("by+leftif left>1;", 3, 1);
        fault("by+left ifleft>1;", 8, 1);
        fault("byby+left;", 0, 1);
        fault("by by+left;", 3, 2);
        fault("by+le ft;", 3, 1);
        fault("by+leftdrop;", 3, 1);
        fault("by+numbers;", 3, 1);
        fault("by+numbe;", 3, 1);
        fault("b y+left;", 0, 1);
        good("   by   +   left   if   left   >   1   and   room   <   2   drop   ;   ");
        good("by+left,-room;");
        for (char blank : new char[] {0, 9, 10, 13, 31, 33, 160}) {
            fault("by" + blank + "+left;", 2, 1);
            fault("by+left;" + blank, 8, 1);
        }
    }

    private void numbers() {
        terms("NUMBERS (1 to 3 figures)");
        for (String n : List.of("0", "9", "00", "99", "000", "007", "999")) good("by+left if left<" + n + ";");
        for (String n : List.of("0000", "0001", "1000", "9999", "12345678901")) fault("by+left if left<" + n + ";", 16, 1);
        fault("by+left if left<;", 16, 2);
        fault("by+left if left<1 2;", 18, 2);
        fault("by+left if left<-1;", 16, 2);
        fault("by+left if left<+1;", 16, 2);
        // 010 is ten, not eight.
        PairedComing x = Checks.posts(1);
        Checks.guest(x, 9);
        Checks.guest(x, 10);
        Checks.tell(x, "by+worth if worth<010;");
        c.due("9 is less than 010", x.come(0, 0), 0);
        x.undo();
        c.due("10 is not", x.come(1, 0), NONE);
    }

    /** Every token behind every beginning of a text: it may stand there, or it is fault 2 (behind the ; it is 5). */
    private void text() {
        terms("text: by key { , key } [ if test { and test } ] [ drop ] ; key: ( + | - ) KEY test: KEY ( < | > ) NUMBER "
            + "KEYS: worth, left, room, rank, paid, number");
        String keys = " worth left room rank paid number ";
        String[][] ways = {
            {"", " by "}, {"by ", " + - "}, {"by + ", keys}, {"by - ", keys}, {"by +worth ", " , if drop ; "},
            {"by +worth, ", " + - "}, {"by +worth if ", keys}, {"by +worth if left ", " < > "},
            {"by +worth if left< ", " 5 "}, {"by +worth if left> ", " 5 "}, {"by +worth if left<5 ", " and drop ; "},
            {"by +worth if left<5 and ", keys}, {"by +worth drop ", " ; "}, {"by +worth if left<5 drop ", " ; "}};
        String all = "by if and drop worth left room rank paid number + - , < > ; 5";
        for (String[] way : ways) {
            int place = way[0].length();
            fault(way[0], place, 2);
            for (String token : all.split(" ")) {
                String text = way[0] + token;
                if (!way[1].contains(" " + token + " ")) fault(text, place, 2);
                else if (token.equals(";")) good(text);
                else fault(text, text.length(), 2);
            }
            for (String none : List.of("x", "key", "bye", "1000", "#", ".", "B")) fault(way[0] + none, place, 1);
        }
        good("by+worth,-left,+room,-rank,+paid,-number;");
        good("by+worth if worth>1 and left<2 and room>3 and rank<4;");
    }

    private void faultsFirstMet() {
        terms("FAULTS, the first met as it is read (a TOKEN is read when the one before has been taken)");
        fault("by +worth,-worth#", 11, 3);
        fault("by +worth,-worth 1000", 11, 3);
        fault("by +worth ,-#worth", 12, 1);
        fault("by + + #", 5, 2);
        fault("# by", 0, 1);
        fault("if #", 0, 2);
        fault("by +worth if left<1 and left<2 and left<3 and left<4 and left#", 57, 4);
        fault("by +worth if left<1 and left<2 and left<3 and left<4 and #", 57, 1);
        fault("by +worth if left<1 and left<2 and left<3 and left<4 and ;", 57, 2);
        fault("by +worth if left<1 and left<2 and left<3 and left<4 and", 56, 2);
        fault("by +worth; by #", 11, 5);
        fault("by +worth; # by", 11, 1);
    }

    /** Each name with one letter changed, taken away or put on is no name. */
    private void almostNames() {
        terms("a NAME that is none of these (by if and drop, KEYS)");
        List<String> names = List.of("by", "if", "and", "drop", "worth", "left", "room", "rank", "paid", "number");
        for (String name : names) {
            fault("by +" + name + "e;", 4, 1);
            fault("by +e" + name + ";", 4, 1);
            for (int i = 0; i < name.length(); i++) {
                fault("by +" + name.substring(0, i) + "q" + name.substring(i + 1) + ";", 4, 1);
                fault("by +" + name.substring(0, i) + name.substring(i + 1) + ";", 4, 1);
            }
        }
    }

    private void faultsOneByOne() {
        terms("1 no TOKEN, a NAME that is none of these (by if and drop, KEYS), a NUMBER that is too long (its first byte)");
        fault("by +worth  abc", 11, 1);
        fault("by +worth  1234", 11, 1);
        fault("by +worth  ?", 11, 1);
        terms("2 a TOKEN that can not stand there (or the end: the length)");
        fault("by +worth  by", 11, 2);
        fault("by +worth", 9, 2);
        fault("by +worth  ", 11, 2);
        fault("", 0, 2);
        terms("3 a KEY that is a key already (it; in keys alone)");
        fault("by +worth,+worth;", 11, 3);
        fault("by +worth,-worth;", 11, 3);
        fault("by +worth,-left,+room,-rank,+paid,-number,+worth;", 43, 3);
        fault("by -left,+room,- room;", 17, 3);
        good("by +worth if worth>1 and worth>1 and worth<9 and worth<9;");
        terms("4 the 5th test (its KEY)");
        good("by +worth if left<1 and left<2 and left<3 and left<4;");
        fault("by +worth if left<1 and left<2 and left<3 and left<4 and  paid<5;", 58, 4);
        terms("5 something behind the ;");
        good("by +worth;");
        good("by +worth;   ");
        fault("by +worth;;", 10, 5);
        fault("by +worth;  by", 12, 5);
        fault("by +worth; 1", 11, 5);
        fault("by +worth; worth", 11, 5);
    }

    /** Post 0: room 3 of which 2 are free, paid 7, rank 9; post 1: room 1, free, paid 0, rank 9. Guest 1 comes. */
    private static int comes(String text, int worth0, int worth1) {
        PairedComing x = new PairedComing();
        x.post(3, 9, 999);
        x.post(1, 9, 999);
        Checks.guest(x, 7, 0);
        Checks.guest(x, worth0, worth1);
        Checks.tell(x, text);
        x.let(0, 0);
        return x.come(1, 0);
    }

    private void keysOfPosts() {
        terms("room: how much of ROOM is not taken; rank: its RANK; paid: what it has paid; number: its number.");
        c.due("2 is more than 1", comes("by +room;", 5, 5), 0);
        c.due("1 is less than 2", comes("by -room;", 5, 5), 1);
        c.due("ranks alike", comes("by +rank;", 5, 5), 0);
        c.due("ranks alike, then the next key", comes("by +rank,+number;", 5, 5), 1);
        c.due("7 is more than 0", comes("by +paid;", 5, 5), 0);
        c.due("0 is less than 7", comes("by -paid;", 5, 5), 1);
        c.due("1 is more than 0", comes("by +number;", 5, 5), 1);
        c.due("0 is less than 1", comes("by -number;", 5, 5), 0);
    }

    private void dividedDown() {
        terms("left: ROOM that is not taken, by ROOM: 100 times, divided down");
        int[][] free = {{100, 0}, {100, 50, 0}, {100, 66, 33, 0}};
        for (int room = 1; room <= 3; room++) {
            for (int taken = 0; taken <= room; taken++) {
                int left = free[room - 1][taken];
                c.due(taken + " of " + room + " taken, from below", leftIs(room, taken, ">", left - 1), 1);
                c.due(taken + " of " + room + " taken, from above", leftIs(room, taken, "<", left + 1), 1);
                c.due(taken + " of " + room + " taken, not above", leftIs(room, taken, ">", left), 0);
                c.due(taken + " of " + room + " taken, not below", leftIs(room, taken, "<", left), 0);
            }
        }
    }

    /** Whether a post passes a test of left: one that drops may be had where nothing is left, too. */
    private static int leftIs(int room, int taken, String sign, int number) {
        PairedComing x = Checks.posts(room);
        for (int g = 0; g < taken; g++) x.let(Checks.guest(x, 1), 0);
        int g = Checks.guest(x, 2);
        // Where 0 is held against what is below 0, no number can be told: any post passes.
        Checks.tell(x, number < 0 ? "by +left drop;" : "by +left if left" + sign + number + " drop;");
        return x.come(g, 0) == 0 ? 1 : 0;
    }

    private void tests() {
        terms("that pass all tests");
        c.due("5 < 5", comes("by -number if worth<5;", 5, 0), NONE);
        c.due("5 < 6", comes("by -number if worth<6;", 5, 0), 0);
        c.due("5 > 5", comes("by -number if worth>5;", 5, 0), NONE);
        c.due("5 > 4", comes("by -number if worth>4;", 5, 0), 0);
        c.due("room 2 > 1", comes("by -number if room>1;", 5, 5), 0);
        c.due("room 1 < 2", comes("by -number if room<2;", 5, 5), 1);
        c.due("rank 9 < 9", comes("by -number if rank<9;", 5, 5), NONE);
        c.due("rank 9 > 8", comes("by -number if rank>8;", 5, 5), 0);
        c.due("paid 0 < 1", comes("by -number if paid<1;", 5, 5), 1);
        c.due("paid 7 > 6", comes("by -number if paid>6;", 5, 5), 0);
        c.due("number 0 > 0", comes("by -number if number>0;", 5, 5), 1);
        c.due("number 1 < 1", comes("by -number if number<1;", 5, 5), 0);
        c.due("nothing < 0", comes("by -number if number<0;", 5, 5), NONE);
        c.due("the first of two fails", comes("by -number if worth>5 and worth<9;", 5, 0), NONE);
        c.due("the last of four fails", comes("by -number if worth>1 and worth>2 and worth>3 and worth>5;", 5, 0), NONE);
        c.due("all four pass", comes("by -number if worth>1 and worth>2 and worth>3 and worth>4;", 5, 0), 0);
        c.due("999 is above all", comes("by -number if worth<999 and left<999 and paid<999;", 5, 5), 0);
    }

    private void whoIsToBeHad() {
        terms("to be had are POSTS with a LINK, with ROOM that is not taken (of a RULE with drop also full ones that hold "
            + "a GUEST of less WORTH there), with paid below BUDGET");
        c.due("no link at all", comes("by +worth;", 0, 0), NONE);
        c.due("a link of 1", comes("by +worth;", 0, 1), 1);
        PairedComing x = Checks.posts(1, 1);
        Checks.guest(x, 5, 0);
        Checks.guest(x, 6, 6);
        Checks.guest(x, 5, 0);
        Checks.guest(x, 0, 7);
        Checks.tell(x, "by -number;");
        Checks.tell(x, "by -number drop;");
        x.let(0, 0);
        c.due("a full one is passed over", x.come(1, 0), 1);
        x.undo();
        c.due("but not of a rule that drops", x.come(1, 1), 0);
        x.undo();
        c.due("not for as much worth", x.come(2, 1), NONE);
        x.undo();
        // Guest 1 is worth 6 at either post; at post 1 it is of less worth than guest 3 there.
        x.let(1, 1);
        c.due("less worth there", x.come(3, 1), 1);
        PairedComing there = Checks.posts(1, 1);
        Checks.guest(there, 9, 1);
        Checks.guest(there, 8, 0);
        Checks.tell(there, "by -number drop;");
        there.let(0, 0);
        c.due("less worth elsewhere is not asked", there.come(1, 0), NONE);
        for (int budget = 4; budget <= 6; budget++) {
            PairedComing poor = new PairedComing();
            poor.post(2, 0, budget);
            Checks.guests(poor, 2, 5);
            Checks.tell(poor, "by -number;");
            poor.come(0, 0);
            c.due("5 of " + budget + " paid", poor.come(1, 0), budget == 6 ? 0 : NONE);
        }
        PairedComing spent = new PairedComing();
        spent.post(1, 0, 5);
        Checks.guest(spent, 5);
        Checks.guest(spent, 9);
        Checks.tell(spent, "by -number drop;");
        spent.come(0, 0);
        c.due("a drop needs budget, too", spent.come(1, 0), NONE);
    }

    private void whichOfThem() {
        terms("Of these the one whose KEYS, one by one, are the greatest (+), the least (-), then the least number.");
        PairedComing x = Checks.posts(1, 1, 1, 1, 1, 1);
        Checks.guest(x, 5, 7, 7, 5, 7, 5);
        for (String text : List.of("by +worth;", "by -worth;", "by +worth,+rank;", "by -worth,+rank;", "by -worth,-rank;")) {
            Checks.tell(x, text);
        }
        int[] wants = {1, 0, 4, 5, 0};
        for (int r = 0; r < 5; r++) {
            c.due("rule " + r, x.come(0, r), wants[r]);
            x.undo();
        }
        PairedComing alike = Checks.posts(1, 1, 1);
        Checks.guest(alike, 5, 5, 5);
        for (int p = 0; p < 3; p++) alike.rank(p, 50);
        Checks.tell(alike, "by -paid,+left,-room,+rank,-worth;");
        c.due("all keys alike", alike.come(0, 0), 0);
        // Full posts that drop stand among the others, with nothing left.
        PairedComing full = Checks.posts(1, 1);
        Checks.guest(full, 1, 0);
        Checks.guest(full, 9, 8);
        Checks.tell(full, "by +worth drop;");
        Checks.tell(full, "by +room drop;");
        Checks.tell(full, "by -left drop;");
        Checks.tell(full, "by +worth if room>0 drop;");
        full.let(0, 0);
        int[] posts = {0, 1, 0, 1};
        for (int r = 0; r < 4; r++) {
            c.due("full or free by rule " + r, full.come(1, r), posts[r]);
            full.undo();
        }
    }

    private void whoIsLetGo() {
        terms("a full one lets the GUEST of the least WORTH go ahead of that (of several the latest that came).");
        int[][] orders = {{0, 1, 2}, {0, 2, 1}, {1, 0, 2}, {1, 2, 0}, {2, 0, 1}, {2, 1, 0}};
        for (int[] order : orders) {
            PairedComing x = Checks.posts(3);
            Checks.guests(x, 3, 5);
            Checks.guest(x, 6);
            Checks.tell(x, "by +worth drop;");
            for (int g : order) x.let(g, 0);
            x.come(3, 0);
            c.due("the latest of three", x.told(0, 5), 15 - (1 << order[2]));
        }
        for (int least = 0; least < 3; least++) {
            PairedComing x = Checks.posts(3);
            for (int g = 0; g < 3; g++) Checks.guest(x, g == least ? 4 : 5);
            Checks.guest(x, 5);
            Checks.tell(x, "by +worth drop;");
            for (int g = 0; g < 3; g++) x.come(g, 0);
            x.come(3, 0);
            c.due("the least of three", x.told(0, 5), 15 - (1 << least));
        }
        // One that came later but is gone is not there to be let go.
        PairedComing gone = Checks.posts(2);
        Checks.guests(gone, 3, 5);
        Checks.guest(gone, 6);
        Checks.tell(gone, "by +worth drop;");
        gone.come(0, 0);
        gone.come(1, 0);
        gone.leave(1);
        gone.come(2, 0);
        gone.come(3, 0);
        c.due("guests 0 and 3", gone.told(0, 5), 1 + 8);
    }

    private void pays() {
        terms("The POST pays WORTH, or what is left of BUDGET, if that is less. (One that is let go gives nothing back.)");
        for (int budget = 1; budget <= 30; budget++) {
            PairedComing x = new PairedComing();
            x.post(1, 0, budget);
            Checks.guest(x, 9);
            Checks.guest(x, 12);
            Checks.guest(x, 13);
            Checks.tell(x, "by +worth drop;");
            x.come(0, 0);
            c.due("9 of " + budget, x.told(0, 4), Math.min(9, budget));
            x.come(1, 0);
            c.due("9 + 12 of " + budget, x.told(0, 4), Math.min(21, budget));
            x.come(2, 0);
            c.due("9 + 12 + 13 of " + budget, x.told(0, 4), Math.min(34, budget));
            c.due("who stands at " + budget, x.told(0, 5), budget > 21 ? 4 : budget > 9 ? 2 : 1);
        }
    }

    private void valueAndKept() {
        terms("VALUE: what all POSTS pay. KEPT: the sum of WORTHS of all pairs that stand.");
        PairedComing x = new PairedComing();
        x.post(1, 0, 8);
        x.post(1, 0, 999);
        Checks.guest(x, 5, 0);
        Checks.guest(x, 7, 0);
        Checks.guest(x, 0, 9);
        Checks.tell(x, "by +worth drop;");
        c.due("5 + 3 + 9", x.run(0, 0), 17);
        c.due("7 + 9", x.run(0, 1), 16);
        for (int g = 0; g < 3; g++) x.come(g, 0);
        c.due("5 + 3 + 9", x.market(0), 17);
        c.due("7 + 9", x.market(1), 16);
    }

    private void runs() {
        terms("RUN of a RULE by an order of GUESTS: from nothing taken, nothing paid, all COME in that order.");
        PairedComing x = new PairedComing();
        x.post(1, 0, 6);
        Checks.guests(x, 2, 6);
        Checks.tell(x, "by +worth;");
        x.let(0, 0);
        x.leave(0);
        c.due("in the market all is paid", x.let(1, 0), STATE);
        c.due("by numbers", x.run(0, 0), 6);
        c.due("guest 0", x.run(0, 10), 0);
        c.due("again, from nothing", x.run(0, 0), 6);
        c.due("by another order", x.runBy(0, 10), 6);
        c.due("the market stays", x.market(4), 2);
    }

    private void best() {
        terms("BEST: the greatest sum of WORTHS by pairs with LINKS, each GUEST once, no POST above its ROOM (BUDGETS are not asked).");
        PairedComing x = new PairedComing();
        x.post(3, 0, 1);
        x.post(1, 0, 1);
        Checks.guest(x, 9, 9);
        c.due("one guest, once", x.best(), 9);
        Checks.guests(x, 4, 5, 0);
        c.due("three rooms, and one", x.best(), 9 + 5 + 5 + 5);
        terms("COVER by PRICES (0 to 99 each; of POSTS): the sum of ROOM times PRICE, and for each GUEST the greatest of "
            + "WORTH less PRICE (none below 0).");
        c.due("0 each", x.cover(0), 9 + 4 * 5);
        c.due("99 each", x.cover(99_99), 4 * 99);
        c.due("a third", x.cover(1_00_00), BAD);
        c.due("just the worth", x.cover(9_05), 15 + 9 + 4);
        terms("PRICES: of a POST: by how much BEST is greater with one ROOM more there.");
        c.due("a fourth room", x.price(0), 5);
        c.due("a second room", x.price(1), 0);
    }

    private void means() {
        terms("MEAN of a RULE: the sum of VALUES of its RUNS by all orders of GUESTS (at most 6 of them), by how many orders there are.");
        PairedComing x = Checks.posts(1);
        Checks.tell(x, "by +worth;");
        c.due("one order of nobody", x.mean(0, 1), 1);
        for (int g = 0; g < 6; g++) Checks.guest(x, g == 0 ? 1 : 2);
        c.due("six: 11 by 6", x.mean(0, 0), 11);
        c.due("six: 11 by 6", x.mean(0, 1), 6);
        x.guest();
        c.due("seven", x.mean(0, 1), STATE);
        terms("in each a GUEST comes by its CHANCE (by the sum of all CHANCES; one may come again), is paired with a POST with "
            + "a LINK and ROOM that is not taken, or let go; the greatest sum of WORTHS to be expected (BUDGETS not asked)");
        PairedComing y = new PairedComing();
        y.post(2, 0, 1);
        Checks.guest(y, 6);
        c.due("it comes again", y.hope(2, 0), 12);
        c.due("no room for a third", y.hope(3, 0), 12);
        Checks.guest(y, 0);
        y.chance(0, 9);
        y.chance(1, 9);
        c.due("9 by 18", y.hope(1, 0), 3);
        y.chance(1, 0);
        c.due("9 by 9", y.hope(1, 0), 6);
    }

    private void batches() {
        terms("BATCHES of b (1 to 9) GUESTS by numbers: behind each b of them (and the last ones) these are paired with what is left "
            + "of ROOMS so that the sum of WORTHS is the greatest");
        PairedComing x = Checks.posts(2);
        for (int g = 0; g < 9; g++) Checks.guest(x, 10 + g);
        // The first batch with room for both takes its two greatest; by ones that is guests 0 and 1.
        int[] sums = {21, 21, 23, 25, 27, 29, 31, 33, 35};
        for (int b = 1; b <= 9; b++) c.due("by " + b, x.batch(b, 0), sums[b - 1]);
        c.due("by 0", x.batch(0, 0), BAD);
        c.due("by 10", x.batch(10, 0), BAD);
        PairedComing last = Checks.posts(1);
        for (int g = 0; g < 5; g++) Checks.guest(last, g == 4 ? 7 : 0);
        for (int b = 1; b <= 9; b++) c.due("the last ones, by " + b, last.batch(b, 14), 0);
    }

    private void worst() {
        terms("THE WORST: the least SHARE of all NETS whose BEST is above 0; of several the least bits.");
        PairedComing x = new PairedComing();
        Checks.tell(x, "by +worth if number>0;");
        // Post 0 is never taken: with its links alone nothing is; bits 1 is the first of these, bits 4 another.
        c.due("size 2", x.worst(0, 2, 2), 1);
        c.due("size 2", x.worst(0, 2, 0), 0);
        c.due("size 2", x.worst(0, 2, 1), 1);
        Checks.tell(x, "by +worth;");
        c.due("size 1: the one net whose best is above 0", x.worst(1, 1, 3), 1);
        c.due("size 1", x.worst(1, 1, 2), 1);
    }

    private void market() {
        terms("THE MARKET: some GUESTS have COME, each once at most; ACTS: come(), let(), leave(), each can be undone (all of them).");
        PairedComing x = Checks.posts(1);
        Checks.guests(x, 2, 5);
        Checks.tell(x, "by +worth;");
        c.due("once", x.let(0, 0), 5);
        x.leave(0);
        c.due("not twice by hand", x.let(0, 0), STATE);
        c.due("not twice by a rule", x.come(0, 0), STATE);
        x.come(1, 0);
        for (int left = 2; left >= 0; left--) c.due("undone to " + left, x.undo(), left);
        c.due("none more", x.undo(), NONE);
    }

    private void sheets() {
        terms("SHEETS 0 to 3 are rows of BYTES (lane 0), SHORTS (1), INTS (2) with 0 to 64 CELLS, or nothing (at first).");
        PairedComing x = Checks.posts(1);
        x.guest();
        c.due("nothing at first", x.count(6), NONE);
        for (int k = 0; k < 4; k++) {
            c.due("0 cells", x.sheet(k, k % 3, 0), 1);
            c.due("64 cells", x.sheet(k, k % 3, 64), 1);
            c.due("65 cells", x.sheet(k, k % 3, 65), BAD);
        }
        c.due("sheet 4", x.sheet(4, 0, 1), BAD);
        c.due("sheet -1", x.sheet(-1, 0, 1), BAD);
        c.due("lane 3", x.sheet(0, 3, 1), BAD);
        c.due("lane -1", x.sheet(0, -1, 1), BAD);
        terms("A FAULT is what the machine finds: 1 NULL (nothing), 2 INDEX, 3 CAST (another lane), 4 SIZE (below 0).");
        PairedComing y = Checks.posts(1);
        y.guest();
        c.due("null", y.lay(0, 0, 1), -11);
        y.sheet(0, 0, 1);
        c.due("index", y.lay(0, 1, 1), -12);
        c.due("cast", y.net(0, 1, 0), -13);
        c.due("size", y.sheet(0, 0, -1), -14);
    }
}
