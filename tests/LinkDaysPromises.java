/** Each promise of the document by its number, with answers that were reckoned by hand. */
public final class LinkDaysPromises {
    private static final int BAD = -1, NOT = -2, FULL = -3, NONE = -4, NULL = -11, CAST = -12, INDEX = -13, SIZE = -14;
    private static final int LOW = Integer.MIN_VALUE, HIGH = Integer.MAX_VALUE;
    private static int wrong = 0;
    private static int promise = 0;
    private static LinkDays x = new LinkDays();

    private static void due(String call, int got, int want) {
        if (got != want) {
            wrong++;
            System.out.println("promise " + promise + ": " + call + " answered " + got + ", due is " + want);
        }
    }

    private static void begin(int number) {
        promise = number;
        x = new LinkDays();
    }

    /** Types a text, eight bytes a call, and reads it. */
    private static int read(String text) {
        type(text);
        return x.chain();
    }

    private static void type(String text) {
        for (int i = 0; i < text.length(); i += 8) {
            String part = text.substring(i, Math.min(i + 8, text.length()));
            long w = 0;
            for (int j = 0; j < part.length(); j++) w = w << 8 | part.charAt(j);
            x.type(w, part.length());
        }
    }

    private static void chain(String text) {
        int links = read(text);
        if (links < 1) due("chain() of " + text, links, 1);
    }

    /** A sheet of ints with these items. */
    private static void ints(int sheet, int... items) {
        x.sheet(sheet, 1, items.length);
        for (int i = 0; i < items.length; i++) x.item(sheet, 1, i, items[i]);
    }

    private static void pieces(String what, int... threes) {
        due(what + ": count(3)", x.count(3), threes.length / 3);
        for (int i = 0; i < threes.length; i++) {
            due(what + ": piece(" + i / 3 + ", " + i % 3 + ")", x.piece(i / 3, i % 3), threes[i]);
        }
        due(what + ": no more", x.piece(threes.length / 3, 0), BAD);
    }

    public static void main(String[] args) {
        newObject();
        kinds();
        links();
        worths();
        cuts();
        mends();
        types();
        texts();
        counts();
        piecesOfKinds();
        notches();
        rates();
        dues();
        paid();
        farDays();
        keptDays();
        twoInns();
        mostDays();
        fewestCuts();
        handedPieces();
        handedAnew();
        lateCuts();
        images();
        seenCuts();
        films();
        newSheets();
        drops();
        items();
        copies();
        System.out.println(wrong == 0 ? "all promises are kept" : wrong + " answers are not as due");
        if (wrong != 0) System.exit(1);
    }

    private static void newObject() {
        begin(1);
        due("count(0)", x.count(0), 1);
        due("count(1)", x.count(1), 1);
        due("count(2)", x.count(2), 0);
        due("count(4)", x.count(4), 1);
        due("count(5)", x.count(5), 0);
        pieces("new", 0, 1, 1);
        due("restore()", x.restore(), NONE);
        for (int s = 0; s < 4; s++) due("drop(" + s + ")", x.drop(s), NULL);
        due("type", x.type('o', 1), 1);
        due("rate(0, 1)", x.rate(0, 1), 1);
        due("rate(1, 0)", x.rate(1, 0), 0);
        due("rate(2, 0)", x.rate(2, 0), 0);
    }

    private static void kinds() {
        begin(2);
        chain("o12/0");
        due("kind(3)", x.kind(3), 0);
        due("nothing is cut", x.count(2), 0);
        due("kind(1)", x.kind(1), 3);
        x.cut(1);
        due("kind(1), which it is", x.kind(1), 1);
        due("nothing is cut by the same kind", x.count(2), 0);
        due("kind(2)", x.kind(2), 1);
        x.cut(0);
        for (int v : new int[] {-1, 4, LOW, HIGH}) due("kind(" + v + ")", x.kind(v), BAD);
        due("refused: cuts stay", x.count(2), 1);
        due("refused: the kind stays", x.count(5), 2);
        due("kind(0)", x.kind(0), 2);
        due("links stay", x.count(4), 3);
    }

    private static void links() {
        begin(3);
        due("link(9)", x.link(9), 2);
        due("whole", x.count(4), 10);
        for (int v : new int[] {0, 10, -1, LOW, HIGH}) due("link(" + v + ")", x.link(v), BAD);
        x.kind(2);
        due("no notch behind the last", x.cut(1), BAD);
        x.cut(0);
        due("link(1)", x.link(1), 3);
        due("it is one now", x.cut(1), 2);
        for (int n = 4; n <= 24; n++) due("link " + n, x.link(1), n);
        due("link(1): 25th", x.link(1), FULL);
        due("link(0): BAD is named first", x.link(0), BAD);
        due("count(0)", x.count(0), 24);
        due("cuts stay", x.count(2), 2);
    }

    private static void worths() {
        begin(4);
        chain("o123");
        due("worth(1, 9)", x.worth(1, 9), 2);
        due("worth(1, 4)", x.worth(1, 4), 9);
        due("whole", x.count(4), 8);
        due("worth(2, 9)", x.worth(2, 9), 3);
        due("whole", x.count(4), 14);
        for (int i : new int[] {-1, 3, 23, 24, LOW, HIGH}) due("worth(" + i + ", 1)", x.worth(i, 1), BAD);
        for (int v : new int[] {0, 10, -1, LOW, HIGH}) due("worth(0, " + v + ")", x.worth(0, v), BAD);
        due("whole", x.count(4), 14);
        x.link(5);
        due("whole with one more", x.count(4), 19);
        x.most(0, -1);
        chain("o22");
        due("most ahead", x.most(1, -1), 0);
        x.worth(1, 1);
        due("most knows the worth", x.most(1, -1), 3);
    }

    private static void cuts() {
        begin(5);
        chain("o11111111");
        due("cut(7)", x.cut(7), 1);
        due("cut(0)", x.cut(0), 2);
        due("cut(7) again", x.cut(7), NOT);
        due("cut(0) again", x.cut(0), NOT);
        due("cut(4)", x.cut(4), 3);
        due("cut(2)", x.cut(2), 4);
        due("cut(3)", x.cut(3), 5);
        due("cut(3): NOT is named ahead of FULL", x.cut(3), NOT);
        due("cut(8): BAD is named first", x.cut(8), BAD);
        due("cut(1)", x.cut(1), FULL);
        due("count(2)", x.count(2), 5);
        for (int v : new int[] {-1, 8, 24, LOW, HIGH}) due("cut(" + v + ")", x.cut(v), BAD);
        for (int kind = 0; kind < 4; kind++) {
            x.kind(kind);
            due("the last link's notch by kind " + kind, x.cut(7), kind < 2 ? 1 : BAD);
        }
        chain("p1");
        due("a rope of one link", x.cut(0), BAD);
    }

    private static void mends() {
        begin(6);
        chain("b1234/1,2,0");
        due("mend(1)", x.mend(1), 2);
        due("mend(1) again", x.mend(1), NOT);
        due("notch(0)", x.notch(0), 0);
        due("notch(1)", x.notch(1), 2);
        due("worth is whole there", x.count(4), 9);
        for (int v : new int[] {-1, 3, 4, LOW, HIGH}) due("mend(" + v + ")", x.mend(v), BAD);
        due("mend(2)", x.mend(2), 1);
        due("mend(0)", x.mend(0), 0);
        due("whole", x.count(4), 10);
        due("cut(1)", x.cut(1), 1);
    }

    private static void types() {
        begin(7);
        due("the highest first", x.type('o' << 16 | '1' << 8 | '2', 3), 3);
        due("chain()", x.chain(), 2);
        due("piece", x.worth(0, 1), 1);
        due("lowest bytes only", x.type(0x7F00000000006F31L, 2), 2);
        due("chain()", x.chain(), 1);
        for (int n : new int[] {0, 9, -1, LOW, HIGH}) due("type(.., " + n + ")", x.type(0x2020202020202020L, n), BAD);
        due("byte 31", x.type(31, 1), BAD);
        due("byte 32", x.type(32, 1), 1);
        due("byte 126", x.type(126, 1), 2);
        due("byte 127", x.type(127, 1), BAD);
        due("byte 255", x.type(255, 1), BAD);
        due("byte 0", x.type('1', 2), BAD);
        due("a byte above 127 at the top", x.type(0xA020202020202020L, 8), BAD);
        due("chain()", x.chain(), -21);
        for (int i = 1; i <= 7; i++) due("type 8", x.type(0x2020202020202020L, 8), 8 * i);
        due("five more", x.type(0x2020202020L, 5), FULL);
        due("five more, one of them BAD", x.type(0x2020202000L, 5), BAD);
        due("four more", x.type(0x6F202037L, 4), 60);
        due("one more", x.type(' ', 1), FULL);
        due("chain()", x.chain(), 1);
        due("whole", x.count(4), 7);
        due("the tape is empty", x.type(' ', 1), 1);
    }

    private static void texts() {
        begin(8);
        String[] texts = {"", "o", "  ", "o  ", "q1", "O1", " q1", "1", "o0", "o10", "o1a", "o1/", "o1/ ", "o1/1",
            "o1/0", "p1/0", "p11/1", "p11/0", "b11/1", "r11/1", "o11/2", "o11/10", "o11/00", "o11/01", "o11/001,0000",
            "o11/99999999999999999999", "o11/4294967296", "o11/0,0", "o11/0,", "o11/0,1", "o11/0,1,", "o11/,", "o11//0",
            "o11/0/1", "o11/0 1", "o 1 1 / 1 , 0 ", "o1 /0 0", "o11/1 ,00", "o111111/5,4,3,2,1", "o111111/5,4,3,2,1,0",
            "o111111/5,4,3,2,1 x", "oo1", "o1o", "o1,0", "o11/-1", "o11/0;1", "b 9 1/0",
            "o111111111111111111111111", "o1111111111111111111111111", "o111111111111111111111111/23,22",
            "o111111111111111111111111/24", "r 1 1111111111111111111111 1 x", "p111111111111111111111111/23"};
        int[] want = {-20, -21, -22, -23, -20, -20, -21, -20, -21, -22, -22, -23, -24, -23,
            1, -23, -24, 2, -24, 2, -24, -24, 2, 2, 2,
            -24, -24, -26, -26, 2, -28, -24, -24,
            -25, -26, 2, -26, 2, 6, -37,
            -38, -21, -22, -22, -24, -25, 2,
            24, -45, 24,
            -46, -49, -46};
        for (int i = 0; i < texts.length; i++) {
            x = new LinkDays();
            chain("b345/1");
            due("chain() of '" + texts[i] + "'", read(texts[i]), want[i]);
            if (want[i] < 0) {
                due("all stays, but the tape: links", x.count(0), 3);
                due("all stays, but the tape: cuts", x.notch(0), 1);
                due("all stays, but the tape: kind", x.count(5), 3);
                due("all stays, but the tape: worth", x.count(4), 11);
            }
            due("the tape is empty then", x.type('1', 1), 1);
        }
        x = new LinkDays();
        String[] kinds = {"o", "r", "p", "b"};
        for (int k = 0; k < 4; k++) {
            chain(kinds[k] + "9321/2, 0");
            due("kind of " + kinds[k], x.count(5), k);
            due("notch(0)", x.notch(0), 0);
            due("notch(1)", x.notch(1), 2);
            due("worth(0, 9)", x.worth(0, 9), 9);
        }
        chain("o1");
        due("no cut is left", x.count(2), 0);
        due("one link", x.count(0), 1);
        x.rate(0, 4);
        chain("o11");
        due("the rate stays", x.due(1), 4);
    }

    private static void counts() {
        begin(9);
        chain("b9135/0,1");
        int[] want = {4, 3, 2, 3, 17, 3};
        for (int what = 0; what < 6; what++) due("count(" + what + ")", x.count(what), want[what]);
        for (int what : new int[] {-1, 6, LOW, HIGH}) due("count(" + what + ")", x.count(what), BAD);
        chain("r9135/0,2");
        want = new int[] {4, 4, 2, 4, 18, 1};
        for (int what = 0; what < 6; what++) due("count(" + what + ")", x.count(what), want[what]);
    }

    private static void piecesOfKinds() {
        begin(10);
        chain("o123456");
        pieces("open, whole", 0, 6, 21);
        chain("o123456/2");
        pieces("open", 0, 2, 3, 2, 1, 3, 3, 3, 15);
        chain("o123456/0,5");
        pieces("open, at its ends", 0, 1, 1, 1, 4, 14, 5, 1, 6);
        chain("o123456/2,3");
        pieces("open, side by side", 0, 2, 3, 2, 1, 3, 3, 1, 4, 4, 2, 11);
        chain("r123456");
        pieces("ring, whole", 0, 6, 21);
        chain("r123456/2");
        pieces("ring, round the end", 2, 1, 3, 3, 5, 18);
        chain("r123456/0");
        pieces("ring, at 0", 0, 1, 1, 1, 5, 20);
        chain("r123456/5");
        pieces("ring, at the last", 0, 5, 15, 5, 1, 6);
        chain("r123456/1,4");
        pieces("ring", 1, 1, 2, 2, 2, 7, 4, 1, 5, 5, 2, 7);
        chain("r123456/0,5");
        pieces("ring, both sides of the end", 0, 1, 1, 1, 4, 14, 5, 1, 6);
        chain("r7/0");
        pieces("ring of one", 0, 1, 7);
        chain("r72/1");
        pieces("ring of two", 0, 1, 7, 1, 1, 2);
        chain("r12345/0,1,2,3,4");
        pieces("ring, all cut", 0, 1, 1, 1, 1, 2, 2, 1, 3, 3, 1, 4, 4, 1, 5);
        chain("p123456/0,4");
        pieces("rope", 0, 1, 1, 1, 4, 14, 5, 1, 6);
        chain("b123456/0,2,4");
        pieces("bar", 0, 1, 1, 1, 2, 4, 3, 2, 8, 5, 1, 6);
        chain("o11111111111/1,3,5,7,9");
        due("eleven pieces", x.count(3), 11);
        due("the last of them", x.piece(10, 0), 10);
        due("no twelfth", x.piece(11, 0), BAD);
        for (int v : new int[] {-1, 3, LOW, HIGH}) due("piece(0, " + v + ")", x.piece(0, v), BAD);
        for (int v : new int[] {-1, 11, 24, LOW, HIGH}) due("piece(" + v + ", 0)", x.piece(v, 0), BAD);
    }

    private static void notches() {
        begin(11);
        due("none", x.notch(0), BAD);
        chain("o1111111/6,0,3");
        due("notch(0)", x.notch(0), 0);
        due("notch(1)", x.notch(1), 3);
        due("notch(2)", x.notch(2), 6);
        for (int i : new int[] {-1, 3, 5, LOW, HIGH}) due("notch(" + i + ")", x.notch(i), BAD);
        x.cut(4);
        due("notch(2)", x.notch(2), 4);
        due("notch(3)", x.notch(3), 6);
    }

    private static void rates() {
        begin(12);
        due("rate(0, 9)", x.rate(0, 9), 1);
        due("rate(0, 2)", x.rate(0, 2), 9);
        due("rate(1, 127)", x.rate(1, 127), 0);
        due("rate(1, 5)", x.rate(1, 5), 127);
        due("rate(2, 127)", x.rate(2, 127), 0);
        due("rate(2, 0)", x.rate(2, 0), 127);
        for (int v : new int[] {0, 10, -1, LOW, HIGH}) due("rate(0, " + v + ")", x.rate(0, v), BAD);
        for (int v : new int[] {128, -1, LOW, HIGH}) {
            due("rate(1, " + v + ")", x.rate(1, v), BAD);
            due("rate(2, " + v + ")", x.rate(2, v), BAD);
        }
        for (int v : new int[] {3, -1, LOW, HIGH}) due("rate(" + v + ", 1)", x.rate(v, 1), BAD);
        due("rate(0, 1)", x.rate(0, 1), 2);
        due("rate(1, 0)", x.rate(1, 0), 5);
        due("rate(2, 0)", x.rate(2, 0), 0);
        chain("o111");
        due("most ahead", x.most(1, -1), 3);
        x.rate(0, 3);
        due("most knows the rate", x.most(1, -1), 1);
        due("fewest knows it", x.fewest(2), NONE);
    }

    private static void dues() {
        begin(13);
        due("due(1)", x.due(1), 1);
        due("due(60)", x.due(60), 60);
        for (int v : new int[] {0, 61, -1, LOW, HIGH}) due("due(" + v + ")", x.due(v), BAD);
        x.rate(0, 3);
        x.rate(1, 1 << 2 | 1 << 6);
        x.rate(2, 1 << 2 | 1 << 0);
        int[] want = {6, 9, 9, 12, 15, 18, 18, 24, 27, 27};
        for (int d = 1; d <= 10; d++) due("due(" + d + ")", x.due(d), want[d - 1]);
        due("due(60)", x.due(60), 8 * 18 + 6 + 3 + 0 + 3);
        x.rate(1, 0);
        x.rate(0, 9);
        x.rate(2, 127);
        due("due(60), the most", x.due(60), 1080);
    }

    private static void paid() {
        begin(14);
        chain("o1234567/2");
        boolean[] can = new boolean[29];
        int[] sums = {0, 3, 6, 22, 25, 28};
        for (int s : sums) can[s] = true;
        for (int s = 0; s < 29; s++) due("pays(" + s + ")", x.pays(s), can[s] ? 1 : 0);
        due("pays(999)", x.pays(999), 0);
        for (int v : new int[] {-1, 1000, LOW, HIGH}) due("pays(" + v + ")", x.pays(v), BAD);
        chain("o999999999999999999999999/0");
        due("pays(216)", x.pays(216), 1);
        due("pays(215)", x.pays(215), 0);
        due("pays(207)", x.pays(207), 1);
        due("pays(9)", x.pays(9), 1);
        due("pays(64)", x.pays(64), 0);
        due("pays(128)", x.pays(128), 0);
        due("pays(217)", x.pays(217), 0);
        due("pays(256)", x.pays(256), 0);
        chain("o999999999999999999999999/23");
        due("207, then 9: pays(216)", x.pays(216), 1);
        due("pays(207)", x.pays(207), 1);
        due("pays(9)", x.pays(9), 1);
        due("pays(25)", x.pays(25), 0);
        due("pays(215)", x.pays(215), 0);
        chain("p999999999999119999999999/11,12,13");
        int[] some = {108, 1, 1, 90};
        boolean[] sum = new boolean[1000];
        for (int set = 0; set < 16; set++) {
            int all = 0;
            for (int i = 0; i < 4; i++) if ((set >> i & 1) == 1) all += some[i];
            sum[all] = true;
        }
        for (int v = 0; v < 1000; v++) due("108, 1, 1, 90: pays(" + v + ")", x.pays(v), sum[v] ? 1 : 0);
        chain("p99999991/6");
        for (int v = 0; v < 200; v++) due("63, 1: pays(" + v + ")", x.pays(v), v < 2 || v == 63 || v == 64 ? 1 : 0);
        chain("p9999999799999991/7");
        for (int v = 0; v < 300; v++) due("70, 64: pays(" + v + ")", x.pays(v), v == 0 || v == 64 || v == 70 || v == 134 ? 1 : 0);
        chain("p99999999/6");
        for (int v = 0; v < 200; v++) due("63, 9: pays(" + v + ")", x.pays(v), v == 0 || v == 9 || v == 63 || v == 72 ? 1 : 0);
        chain("p999999911111199999999/6");
        due("64 and a bit: pays(63)", x.pays(63), 1);
        due("pays(78)", x.pays(78), 1);
        due("pays(141)", x.pays(141), 1);
        due("pays(64)", x.pays(64), 0);
    }

    private static void farDays() {
        begin(15);
        due("one link", x.far(), 1);
        chain("o1111111/2");
        due("seven days by one cut", x.far(), 7);
        x.mend(2);
        due("not one day", x.far(), 0);
        chain("o2");
        due("worth 2", x.far(), 0);
        x.rate(0, 2);
        due("rate 2", x.far(), 1);
        x.rate(1, 1);
        due("a day off first", x.far(), 2);
        x.rate(1, 126);
        due("six days off behind", x.far(), 7);
        x.rate(1, 127);
        due("nothing is due", x.far(), 60);
        x.rate(1, 0);
        x.rate(0, 1);
        x.rate(2, 1);
        due("a double day", x.far(), 1);
        begin(15);
        chain("p123456789999/0,1,2,3,4");
        due("1 to 5, then 57", x.far(), 15);
        chain("p1248888888/0,1,2,3,5");
        due("63, but there are 60 days", x.far(), 60);
        chain("o11111111/1,3,5,7");
        x.rate(1, 127 - 8);
        due("due are 8 till day 59", x.far(), 59);
        x.rate(1, 0);
        chain("o999999999999124/12,13,14,4,9");
        due("as far as 7", x.far(), 7);
        chain("p248999999929/0,1,2,4,5");
        due("odd ones can't be", x.far(), 0);
    }

    private static void keptDays() {
        begin(16);
        due("one link", x.kept(), 1);
        chain("o1111111/2");
        due("pieces 2, 1, 4", x.kept(), 1);
        due("FAR is more", x.far(), 7);
        chain("o11111/0,1,2");
        due("pieces 1, 1, 1, 2", x.kept(), 3);
        x.rate(0, 2);
        due("rate 2: 2, then 1 and 1", x.kept(), 2);
        x.rate(0, 1);
        x.rate(2, 1);
        due("double on the first day: 2, 1, 1, 1", x.kept(), 4);
        x.rate(2, 2);
        due("double on the second day: 1, 2, 1, 1", x.kept(), 4);
        x.rate(1, 4 | 8);
        due("with days off: 1, 2, -, -, 1, 1", x.kept(), 6);
        x.rate(1, 127);
        due("nothing is due", x.kept(), 60);
        begin(16);
        chain("o11111111/1,3,5,7");
        x.rate(1, 127 - 8);
        due("eight pieces of 1, till day 59", x.kept(), 59);
        x.rate(1, 0);
        chain("o999999999999999999999999/0,1,2,22,23");
        x.rate(0, 9);
        due("five of 9, then 171", x.kept(), 5);
        chain("p2131/0,1,2");
        x.rate(0, 3);
        due("3 or 2 and 1 first: 2 days", x.kept(), 2);
        chain("p32124/0,1,2,3");
        due("not the first that pays: 3, 2 and 1, no 3 is left", x.kept(), 2);
        chain("p31224/0,1,2,3");
        x.rate(0, 1);
        x.rate(2, 2 | 4);
        due("1, 2, 2: then nothing of 1", x.kept(), 3);
    }

    private static void twoInns() {
        begin(17);
        due("one piece", x.two(1), 0);
        chain("o111/1");
        due("1 and 1", x.two(1), 1);
        due("1 and 2", x.two(2), 1);
        due("1 and 3 can't be", x.two(3), 0);
        chain("o11111/0,1,2");
        due("1, 1, 1, 2: 1 and 1, 2 and 2", x.two(1), 2);
        due("1 and 2, then 2 and 4", x.two(2), 1);
        due("1 and 3, 1 and 2 being 3", x.two(3), 1);
        due("1 and 4", x.two(4), 1);
        due("1 and 5", x.two(5), 0);
        for (int v : new int[] {0, 10, -1, LOW, HIGH}) due("two(" + v + ")", x.two(v), BAD);
        x.rate(1, 127);
        due("nothing is due to the one", x.two(1), 5);
        due("two(9)", x.two(9), 0);
        begin(17);
        chain("r111111111111/0,5,6,11");
        due("2, though day 4 could be paid", x.two(1), 2);
        chain("p1248888888/0,1,2,3,5");
        x.rate(1, 127);
        due("all days to the one", x.two(1), 60);
        due("31 days", x.two(2), 31);
    }

    private static void mostDays() {
        begin(18);
        chain("o1111111");
        due("most(0, -1)", x.most(0, -1), 0);
        due("most(0, 0)", x.most(0, 0), NONE);
        due("most(1, -1)", x.most(1, -1), 7);
        due("most(1, 0)", x.most(1, 0), 2);
        due("most(1, 1)", x.most(1, 1), NONE);
        due("most(2, -1)", x.most(2, -1), 7);
        due("most(2, 0)", x.most(2, 0), 0);
        due("most(2, 1)", x.most(2, 1), 2);
        x.cut(6);
        due("others cut are none of it", x.most(1, 0), 2);
        x.kind(1);
        due("ring by one", x.most(1, -1), 1);
        due("the first of like ones", x.most(1, 0), 0);
        x.kind(2);
        due("rope by one: 1 and 6, or 2 and 5", x.most(1, -1), 1);
        due("rope by two: 1, 2, 4", x.most(2, -1), 7);
        due("most(2, 0)", x.most(2, 0), 0);
        due("most(2, 1)", x.most(2, 1), 2);
        chain("b21");
        due("bar: 1 and 1", x.most(1, -1), 2);
        due("bar, not cut", x.most(0, -1), 0);
        due("bar of two has one notch", x.most(2, -1), NONE);
        due("most(2, 3): NONE", x.most(2, 3), NONE);
        x.kind(0);
        due("open by two", x.most(2, -1), 3);
        x.link(1);
        due("most knows the link", x.most(2, -1), 4);
        x.image();
        x.worth(0, 9);
        due("most knows the worth", x.most(2, -1), 2);
        x.restore();
        due("most knows what was restored", x.most(2, -1), 4);
        for (int v : new int[] {-1, 5, LOW, HIGH}) due("most(" + v + ", -1)", x.most(v, -1), BAD);
        for (int v : new int[] {-2, 4, LOW, HIGH}) due("most(0, " + v + ")", x.most(0, v), BAD);
        chain("o111111111111111111111111");
        due("24 links by 4", x.most(4, -1), 24);
        due("most(4, 3)", x.most(4, 3) >= 3 ? 1 : 0, 1);
        chain("o999999999999999999999999");
        due("no way", x.most(4, -1), 0);
        for (int i = 0; i < 4; i++) due("the first of all", x.most(4, i), i);
    }

    private static void fewestCuts() {
        begin(19);
        chain("o11111111111111111111111");
        due("fewest(0)", x.fewest(0), 0);
        due("fewest(1)", x.fewest(1), 1);
        due("fewest(3)", x.fewest(3), 1);
        due("fewest(4)", x.fewest(4), 2);
        due("fewest(23)", x.fewest(23), 2);
        due("fewest(24)", x.fewest(24), NONE);
        due("fewest(60)", x.fewest(60), NONE);
        for (int v : new int[] {-1, 61, LOW, HIGH}) due("fewest(" + v + ")", x.fewest(v), BAD);
        x.cut(5);
        due("cuts are none of it", x.fewest(23), 2);
        x.rate(1, 127);
        due("nothing is due", x.fewest(60), 0);
        begin(19);
        chain("p11");
        due("rope of two", x.fewest(2), 1);
        chain("p1111111");
        due("rope of seven", x.fewest(7), 2);
        chain("p99999");
        due("no cuts do", x.fewest(1), NONE);
        chain("p1");
        due("one link", x.fewest(1), 0);
        due("one link, two days", x.fewest(2), NONE);
        chain("p1111111111111111");
        due("rope of 16 by 4: 1 2 4 8 1", x.fewest(16), 4);
        chain("p111111111111111111111111");
        due("rope of 24 by 4", x.fewest(24), 4);
    }

    private static void handedPieces() {
        begin(20);
        due("one", x.handed(1, 0), 1);
        due("the set", x.handed(1, 1), 1);
        due("FAR is 1", x.handed(2, 0), NOT);
        chain("o1111111/2");
        // pieces 2, 1, 4: 1 | 2 | 1 2 | 4 | 4 1 | 4 2 | all
        int[] want = {2, 1, 3, 4, 6, 5, 7};
        for (int d = 1; d <= 7; d++) due("handed(7, " + d + ")", x.handed(7, d), want[d - 1]);
        due("1 + 2 + 1 + 3 + 1 + 2 + 1", x.handed(7, 0), 11);
        due("handed(4, 0)", x.handed(4, 0), 7);
        due("handed(8, 0)", x.handed(8, 0), NOT);
        due("handed(60, 0)", x.handed(60, 0), NOT);
        for (int v : new int[] {0, 61, -1, LOW, HIGH}) due("handed(" + v + ", 0)", x.handed(v, 0), BAD);
        for (int v : new int[] {-1, 4, LOW, HIGH}) due("handed(3, " + v + ")", x.handed(3, v), BAD);
        due("BAD is named ahead of NOT", x.handed(8, 9), BAD);
        chain("p1111/0,1,2");
        due("like pieces: the lowest", x.handed(2, 1), 1);
        due("then one more", x.handed(2, 2), 3);
        due("one each", x.handed(4, 0), 4);
        x.rate(1, 1 | 4);
        due("off first: nothing lies there", x.handed(3, 1), 0);
        due("handed(3, 2)", x.handed(3, 2), 1);
        due("off: it stays", x.handed(3, 3), 1);
        due("handed(3, 0)", x.handed(3, 0), 1);
        x.rate(1, 127);
        due("nothing is due", x.handed(60, 0), 0);
        due("nothing lies there", x.handed(60, 60), 0);
        begin(20);
        // 3 or 2 1, 3 2 1 or 2 4, 3 2 4: each way five are handed
        chain("p3214/0,1,2");
        x.rate(0, 3);
        due("by 3 days", x.handed(3, 0), 5);
        due("the first row", x.handed(3, 1), 1);
        due("the first row", x.handed(3, 2), 7);
        due("the first row", x.handed(3, 3), 11);
        due("one day: the one piece", x.handed(1, 1), 1);
        due("two days: 3, and 2 1 with it", x.handed(2, 1), 1);
        due("handed(2, 2)", x.handed(2, 2), 7);
        due("handed(2, 0)", x.handed(2, 0), 3);
        chain("p3214/0,1,2");
        x.rate(2, 2);
        x.rate(0, 2);
        due("2, then 2 4 or 3 2 1", x.handed(2, 0), 2);
        due("2 4", x.handed(2, 2), 10);
        chain("p4117/0,1,2");
        x.rate(2, 1);
        x.rate(0, 2);
        due("4 on day 1, 1 1 4 on day 2", x.handed(2, 0), 3);
        chain("p421118/0,1,2,3,4");
        x.rate(2, 0);
        x.rate(0, 4);
        // day 1: 4, or 2 1 1; day 2: 8, or 4 2 1 1; day 3: 8 4, or 8 2 1 1
        due("4, then 8 for it, then 4 with it", x.handed(3, 0), 4);
        due("day 1", x.handed(3, 1), 1);
        due("day 2", x.handed(3, 2), 32);
        due("day 3", x.handed(3, 3), 33);
        begin(20);
        chain("o11111111111/1,3,5,7,9");
        due("eleven pieces of 1", x.handed(11, 0), 11);
        for (int d = 1; d <= 11; d++) due("one more on day " + d, x.handed(11, d), (1 << d) - 1);
        due("kept", x.kept(), 11);
        due("two(1)", x.two(1), 5);
        due("two(9)", x.two(9), 1);
    }

    /** Days are asked for one by one: what was found for one holds for the next, until something changes. */
    private static void handedAnew() {
        begin(20);
        chain("p1122/0,1,2");
        due("1, 1 1, 1 2 or 1, 2, 1 2: the first", x.handed(3, 2), 3);
        x.worth(1, 2);
        due("1, 2, 1 2", x.handed(3, 2), 2);
        x.worth(1, 1);
        due("as it was", x.handed(3, 2), 3);
        x.kept();
        due("kept() looks at other things", x.handed(3, 2), 3);
        x.two(1);
        due("two(1) too", x.handed(3, 2), 3);
        due("in all", x.handed(3, 0), 4);
        due("in two days", x.handed(2, 0), 2);
        due("in three days again", x.handed(3, 0), 4);
        x.rate(1, 2);
        due("day 2 off: 1, 1, 1 1", x.handed(3, 0), 2);
        x.rate(1, 0);
        due("as it was", x.handed(3, 0), 4);
        x.rate(2, 4);
        due("day 3 double: 1, 1 1, 1 1 2", x.handed(3, 0), 3);
        x.rate(2, 0);
        due("as it was", x.handed(3, 0), 4);
        x.worth(0, 2);
        due("the first piece is 2: the second", x.handed(3, 1), 2);
        x.worth(0, 1);
        due("as it was", x.handed(3, 1), 1);
        x.worth(3, 1);
        due("the last piece is 1: 1, 1 1, 1 1 1", x.handed(3, 0), 3);
        x.worth(3, 2);
        due("as it was", x.handed(3, 0), 4);
        x.mend(2);
        due("pieces 1, 1, 4: day 3 can't be", x.handed(3, 0), NOT);
        x.cut(2);
        due("as it was", x.handed(3, 0), 4);
        chain("p11221/0,1,2,3");
        due("1, 1 1, 1 1 1", x.handed(3, 0), 3);
        due("one more piece", x.handed(3, 3), 19);
        x.image();
        chain("p1122/0,1,2");
        due("one less", x.handed(3, 3), 5);
        x.restore();
        due("one more again", x.handed(3, 3), 19);
        chain("p1122/0,1,2");
        due("1 1 2 2", x.handed(3, 1), 1);
        chain("p2211/0,1,2");
        due("2 2 1 1: each piece is another", x.handed(3, 1), 4);
        chain("p111111/0,1,2,3,4");
        due("one each day", x.handed(3, 0), 3);
        x.rate(0, 2);
        due("two each day: each due is another", x.handed(3, 0), 6);
    }

    private static void lateCuts() {
        begin(21);
        due("no cut: nothing", x.late(1, -1), 0);
        due("no cut: none", x.late(1, 0), NONE);
        chain("o11111111111111111111111/3,10");
        due("late(23, -1)", x.late(23, -1), 3);
        due("late(23, 0)", x.late(23, 0), 1);
        due("late(23, 1)", x.late(23, 1), 2);
        due("late(23, 2)", x.late(23, 2), NONE);
        due("late(23, 4)", x.late(23, 4), NONE);
        due("late(24, 4): NOT is named ahead of NONE", x.late(24, 4), NOT);
        due("late(1, -1)", x.late(1, -1), 2);
        for (int v : new int[] {0, 61, -1, LOW, HIGH}) due("late(" + v + ", -1)", x.late(v, -1), BAD);
        for (int v : new int[] {-2, 5, LOW, HIGH}) due("late(1, " + v + ")", x.late(1, v), BAD);
        x.rate(1, 1 | 2 | 4);
        due("not ahead of the first day that is due: 4 and 5", x.late(7, -1), 9);
        x.rate(1, 127);
        due("never needed: all on the last day", x.late(60, -1), 120);
        begin(21);
        chain("p1111/0,1,2");
        // pieces 1, 3: days 1, 3, 4 are paid; a cut more is wanted on day 2 only
        due("late(4, -1)", x.late(4, -1), 1 + 2 + 4);
        due("late(4, 0)", x.late(4, 0), 1);
        due("of like ones the first", x.late(4, 1), 2);
        due("late(4, 2)", x.late(4, 2), 4);
        begin(21);
        chain("b31/0");
        x.rate(0, 2);
        due("a bar loses by its cut", x.late(1, -1), 1);
        begin(21);
        chain("p11111111/0,1,2,3,4");
        due("five cuts", x.late(8, -1) > 5 ? 1 : 0, 1);
        x.rate(1, 127);
        due("five cuts, all on day 60", x.late(60, -1), 300);
        for (int i = 0; i < 5; i++) due("cut " + i, x.late(60, i), 60);
        x.rate(1, 0);
        due("the fifth has a day", x.late(8, 4) >= 1 ? 1 : 0, 1);
    }

    private static void images() {
        begin(22);
        chain("b345/1");
        x.rate(0, 2);
        x.rate(1, 3);
        x.rate(2, 5);
        ints(0, 1, 2);
        due("image()", x.image(), 1);
        chain("o11/0");
        x.rate(0, 9);
        x.rate(1, 9);
        x.rate(2, 9);
        ints(0, 7, 7, 7);
        type("o12");
        promise = 23;
        due("restore()", x.restore(), 1);
        due("links", x.count(0), 3);
        due("kind", x.count(5), 3);
        due("notch", x.notch(0), 1);
        due("cuts", x.count(2), 1);
        due("worth", x.worth(1, 4), 4);
        due("sheets stay", x.drop(0), 3);
        due("the tape stays", x.type('3', 1), 4);
        due("chain()", x.chain(), 3);
        x.cut(2);
        due("rate", x.rate(0, 1), 2);
        due("off", x.rate(1, 1), 3);
        due("double", x.rate(2, 1), 5);
        due("due", x.due(2), 1);
        due("due(60)", x.due(60), 51);
        due("restore() again", x.restore(), 1);
        due("due(60)", x.due(60), 102);
        due("due(59)", x.due(59), 100);
        due("the image stays: notch", x.notch(0), 1);
        due("the image stays: kind", x.count(5), 3);
        due("the image stays: due", x.due(3), 4);
        x.mend(1);
        due("image() anew", x.image(), 1);
        x.cut(0);
        x.restore();
        due("the new one counts", x.count(2), 0);
        begin(23);
        due("none", x.restore(), NONE);
        x.image();
        x.link(1);
        x.restore();
        due("one link", x.count(0), 1);
    }

    private static void seenCuts() {
        begin(24);
        chain("o1111111");
        ints(0, 2, 1, 4, 7, 0, 1000, 999, 1, 1);
        due("2, 1 and 4 by one cut: 2, 4", x.seen(1, 0, 1, 0, 3, -1), 2);
        due("the first", x.seen(1, 0, 1, 0, 3, 0), 2);
        due("no second", x.seen(1, 0, 1, 0, 3, 1), NONE);
        due("a 1 twice by one cut: 1, 5", x.seen(1, 0, 1, 7, 2, -1), 2);
        ints(1, 1, 2, 1);
        due("1, 2 and one more 1 by one cut", x.seen(1, 1, 1, 0, 3, -1), 0);
        x.drop(1);
        due("one 1 by one cut: any", x.seen(1, 0, 1, 1, 1, -1), 7);
        due("by two cuts nothing is left to cut", x.seen(2, 0, 1, 0, 3, -1), 0);
        due("2 and 1 by two cuts", x.seen(2, 0, 1, 0, 2, -1), 9);
        due("the first of it", x.seen(2, 0, 1, 0, 2, 0), 0);
        due("the first of it", x.seen(2, 0, 1, 0, 2, 1), 3);
        due("7 by none", x.seen(0, 0, 1, 3, 1, -1), 1);
        due("no notch of it", x.seen(0, 0, 1, 3, 1, 0), NONE);
        due("7 by one", x.seen(1, 0, 1, 3, 1, -1), 0);
        due("there is none", x.seen(1, 0, 1, 3, 1, 0), NONE);
        due("999", x.seen(1, 0, 1, 6, 1, -1), 0);
        due("0", x.seen(1, 0, 1, 4, 1, -1), NOT);
        due("1000", x.seen(1, 0, 1, 5, 1, -1), NOT);
        due("one of several", x.seen(1, 0, 1, 0, 5, -1), NOT);
        due("INDEX is named ahead of NOT", x.seen(1, 0, 1, 4, 6, -1), INDEX);
        due("the last", x.seen(1, 0, 1, 8, 1, -1), 7);
        for (int i : new int[] {-1, 9, LOW, HIGH}) due("item " + i, x.seen(1, 0, 1, i, 1, -1), INDEX);
        for (int v : new int[] {-1, 4, LOW, HIGH}) {
            due("k " + v, x.seen(v, 0, 1, 0, 1, -1), BAD);
            due("sheet " + v, x.seen(1, v, 1, 0, 1, -1), BAD);
        }
        for (int v : new int[] {-1, 3, LOW, HIGH}) due("lane " + v, x.seen(1, 0, v, 0, 1, -1), BAD);
        for (int v : new int[] {-1, 0, 9, LOW, HIGH}) due("n " + v, x.seen(1, 0, 1, 0, v, -1), BAD);
        for (int v : new int[] {-2, 3, LOW, HIGH}) due("j " + v, x.seen(1, 0, 1, 0, 1, v), BAD);
        due("nothing there", x.seen(1, 1, 1, 0, 1, -1), NULL);
        due("another lane", x.seen(1, 0, 2, 0, 1, -1), CAST);
        due("CAST is named ahead of INDEX", x.seen(1, 0, 2, 99, 1, -1), CAST);
        due("BAD is named first", x.seen(1, 1, 1, 0, 1, 3), BAD);
        x.sheet(1, 0, 2);
        x.item(1, 0, 0, 4);
        x.item(1, 0, 1, 200);
        due("bytes", x.seen(1, 1, 0, 0, 1, -1), 2);
        due("a byte below 0", x.seen(1, 1, 0, 1, 1, -1), NOT);
        x.sheet(2, 2, 2);
        x.item(2, 2, 0, 4);
        x.item(2, 2, 1, 4294967300L);
        due("longs", x.seen(1, 2, 2, 0, 1, -1), 2);
        due("a long whose low bits are 4", x.seen(1, 2, 2, 1, 1, -1), NOT);
        x.kind(2);
        due("rope: 4 by one cut", x.seen(1, 2, 2, 0, 1, -1), 2);
        due("the first", x.seen(1, 2, 2, 0, 1, 0), 2);
        x.cut(0);
        due("others cut are none of it", x.seen(1, 2, 2, 0, 1, -1), 2);
        due("by three: 4 1 1 1, each way", x.seen(3, 2, 2, 0, 1, -1), 4);
        for (int j = 0; j < 3; j++) due("the first", x.seen(3, 2, 2, 0, 1, j), j);
        chain("p11");
        due("more cuts than notches", x.seen(3, 0, 1, 1, 1, -1), 0);
        due("none of it", x.seen(3, 0, 1, 1, 1, 2), NONE);
    }

    private static void films() {
        begin(25);
        chain("r123456/1,4");
        x.sheet(0, 1, 6);
        due("film(0, 1, 2)", x.film(0, 1, 2), 4);
        due("film(0, 1, 3)", x.film(0, 1, 3), INDEX);
        for (int i : new int[] {-1, 6, LOW, HIGH}) due("film(0, 1, " + i + ")", x.film(0, 1, i), INDEX);
        due("the worths stand there", x.seen(2, 0, 1, 2, 4, 1), 4);
        due("the worths stand there", x.seen(2, 0, 1, 2, 4, 0), 1);
        due("nothing stands ahead", x.seen(2, 0, 1, 1, 1, -1), NOT);
        due("another lane", x.film(0, 0, 0), CAST);
        due("nothing there", x.film(1, 1, 0), NULL);
        for (int v : new int[] {-1, 4, LOW, HIGH}) due("film(" + v + ", 1, 0)", x.film(v, 1, 0), BAD);
        for (int v : new int[] {-1, 3, LOW, HIGH}) due("film(0, " + v + ", 0)", x.film(0, v, 0), BAD);
        x.sheet(0, 1, 6);
        due("film(0, 1, 1)", x.film(0, 1, 1), 4);
        due("nothing stands behind", x.seen(2, 0, 1, 5, 1, -1), NOT);
        chain("o999999999999999999999999");
        x.sheet(1, 0, 1);
        x.sheet(2, 2, 1);
        due("film(1, 0, 0)", x.film(1, 0, 0), 1);
        due("216 in a byte is below 0", x.seen(0, 1, 0, 0, 1, -1), NOT);
        due("film(2, 2, 0)", x.film(2, 2, 0), 1);
        due("216 in a long", x.seen(0, 2, 2, 0, 1, -1), 1);
        x.sheet(1, 0, 0);
        due("an empty row", x.film(1, 0, 0), INDEX);
    }

    private static void newSheets() {
        begin(26);
        due("sheet(0, 0, 0)", x.sheet(0, 0, 0), 0);
        due("sheet(3, 2, 24)", x.sheet(3, 2, 24), 24);
        due("sheet(0, 0, 25)", x.sheet(0, 0, 25), BAD);
        due("sheet(0, 0, HIGH)", x.sheet(0, 0, HIGH), BAD);
        due("sheet(0, 0, -1)", x.sheet(0, 0, -1), SIZE);
        due("sheet(0, 0, LOW)", x.sheet(0, 0, LOW), SIZE);
        for (int v : new int[] {-1, 4, LOW, HIGH}) due("sheet(" + v + ", 0, -1)", x.sheet(v, 0, -1), BAD);
        for (int v : new int[] {-1, 3, LOW, HIGH}) due("sheet(0, " + v + ", -1)", x.sheet(0, v, -1), BAD);
        due("refused: what was there stays", x.drop(0), 0);
        ints(1, 1, 1);
        due("of worth 1", x.seen(0, 1, 1, 0, 1, -1), 1);
        x.sheet(1, 1, 2);
        due("a new row is of 0", x.seen(0, 1, 1, 0, 1, -1), NOT);
        x.sheet(1, 2, 1);
        due("of the new lane", x.item(1, 1, 0, 1), CAST);
        due("of the new length", x.item(1, 2, 1, 1), INDEX);
    }

    private static void drops() {
        begin(27);
        due("nothing there", x.drop(0), NULL);
        x.sheet(0, 1, 7);
        due("drop(0)", x.drop(0), 7);
        due("drop(0) again", x.drop(0), NULL);
        due("item of nothing", x.item(0, 1, 0, 1), NULL);
        for (int v : new int[] {-1, 4, LOW, HIGH}) due("drop(" + v + ")", x.drop(v), BAD);
    }

    private static void items() {
        begin(28);
        x.sheet(0, 0, 2);
        x.sheet(1, 1, 2);
        x.sheet(2, 2, 2);
        long v = 0x500000101L;
        for (int lane = 0; lane < 3; lane++) {
            due("item", x.item(lane, lane, 1, v), 1);
            due("the last", x.item(lane, lane, 2, v), INDEX);
            due("below 0", x.item(lane, lane, -1, v), INDEX);
            due("far out", x.item(lane, lane, HIGH, v), INDEX);
            due("far out", x.item(lane, lane, LOW, v), INDEX);
            due("another lane", x.item(lane, (lane + 1) % 3, 9, v), CAST);
        }
        due("its lowest 8 bits: 1", x.seen(0, 0, 0, 1, 1, -1), 1);
        due("its lowest 32 bits: 257", x.seen(0, 1, 1, 1, 1, -1), 0);
        due("all its bits", x.seen(0, 2, 2, 1, 1, -1), NOT);
        due("nothing there", x.item(3, 1, 9, 1), NULL);
        for (int s : new int[] {-1, 4, LOW, HIGH}) due("item(" + s + ", 1, 0, 1)", x.item(s, 1, 0, 1), BAD);
        for (int s : new int[] {-1, 3, LOW, HIGH}) due("item(0, " + s + ", 0, 1)", x.item(0, s, 0, 1), BAD);
    }

    private static void copies() {
        begin(29);
        ints(0, 1, 2, 3, 4, 5);
        ints(1, 9, 9, 9);
        due("copy(0, 1, 1, 0, 2)", x.copy(0, 1, 1, 0, 2), 2);
        due("copied: 2", oneOf(1, 0), 2);
        due("copied: 3", oneOf(1, 1), 3);
        due("not copied", oneOf(1, 2), 9);
        due("onto itself, up", x.copy(0, 0, 0, 1, 4), 4);
        int[] want = {1, 1, 2, 3, 4};
        for (int i = 0; i < 5; i++) due("up: item " + i, oneOf(0, i), want[i]);
        due("onto itself, down", x.copy(0, 1, 0, 0, 4), 4);
        want = new int[] {1, 2, 3, 4, 4};
        for (int i = 0; i < 5; i++) due("down: item " + i, oneOf(0, i), want[i]);
        due("nothing", x.copy(0, 5, 1, 3, 0), 0);
        due("nothing, behind the end", x.copy(0, 6, 1, 3, 0), INDEX);
        due("too many of the first", x.copy(0, 4, 1, 0, 2), INDEX);
        due("too many of the second", x.copy(0, 0, 1, 2, 2), INDEX);
        due("below 0", x.copy(0, -1, 1, 0, 1), INDEX);
        due("below 0", x.copy(0, 0, 1, -1, 1), INDEX);
        due("n below 0", x.copy(0, 0, 1, 0, -1), INDEX);
        due("far out", x.copy(0, HIGH, 1, HIGH, HIGH), INDEX);
        due("far out", x.copy(0, LOW, 1, LOW, LOW), INDEX);
        due("refused: all stays", oneOf(1, 2), 9);
        x.sheet(2, 2, 5);
        due("unlike lanes", x.copy(0, 0, 2, 0, 1), CAST);
        due("CAST is named ahead of INDEX", x.copy(0, 9, 2, 0, 1), CAST);
        due("nothing there", x.copy(0, 0, 3, 0, 1), NULL);
        due("nothing there", x.copy(3, 0, 0, 0, 1), NULL);
        due("nothing at both", x.copy(3, 0, 3, 0, 1), NULL);
        for (int v : new int[] {-1, 4, LOW, HIGH}) {
            due("copy(" + v + ", ..)", x.copy(v, 0, 3, 0, 1), BAD);
            due("copy(.., " + v + ")", x.copy(3, 0, v, 0, 1), BAD);
        }
    }

    /** Which worth an item has: it is seen in a chain of one such link. */
    private static int oneOf(int sheet, int i) {
        for (int worth = 1; worth <= 9; worth++) {
            chain("o" + worth);
            if (x.seen(0, sheet, 1, i, 1, -1) == 1) return worth;
        }
        return 0;
    }
}
