import java.util.ArrayList;
import java.util.List;
import java.util.function.ToIntFunction;

/**
 * Of several refusals the first that the call names; and "What is refused changes nothing, but as told":
 * each refused call is made on an object that holds something everywhere, and all that can be seen of it
 * then is held against a twin on which the call was not made.
 */
public final class LinkDaysRefused {
    private static final int BAD = -1, NOT = -2, FULL = -3, NONE = -4, NULL = -11, CAST = -12, INDEX = -13, SIZE = -14;
    private static final int LOW = Integer.MIN_VALUE, HIGH = Integer.MAX_VALUE;
    private static final String ONES = "111111111111111111111111";
    private static final long BLANKS = 0x2020202020202020L;
    private static int wrong = 0, calls = 0;

    /** How an object came to hold what it holds. */
    private enum State { FULL_CHAIN, SMALL_BAR, NO_DAY, ROPE, NEW }

    private static LinkDays make(State state) {
        LinkDays x = new LinkDays();
        switch (state) {
            case FULL_CHAIN: fullChain(x); break;
            case SMALL_BAR: smallBar(x); break;
            case NO_DAY: noDay(x); break;
            case ROPE: rope(x); break;
            default:
        }
        return x;
    }

    /** 24 links, 5 cuts, 60 bytes, an image, rows of each lane, and nothing at 3. */
    private static void fullChain(LinkDays x) {
        read(x, "b3456/0,2");
        rates(x, 2, 64, 3);
        x.image();
        read(x, "o" + ONES.substring(0, 20) + "2345/1,4,9,16,21");
        rates(x, 1, 32, 2);
        row(x, 0, 0, 2, 3, 4);
        row(x, 1, 1, 5, 6, 7, 8, 9);
        row(x, 2, 2, 10, 11);
        type(x, "   r 1 2 3 4 5 6 7 8 9 8 7 6 5 4 3 2 1 / 2 , 11 , 6 , 13    ");
    }

    /** Few links, no image, a row of 24 and an empty one, a tape that is no chain. */
    private static void smallBar(LinkDays x) {
        read(x, "b21232/0,3");
        rates(x, 1, 0, 0);
        x.sheet(1, 0, 0);
        x.sheet(2, 1, 24);
        for (int i = 0; i < 12; i++) x.item(2, 1, i + 6, 12 - i);
        row(x, 3, 2, 3, 4, 0, 1);
        type(x, "o12/x");
    }

    /** Not one day can be paid; a ring of three, none cut; items that are no worths. */
    private static void noDay(LinkDays x) {
        read(x, "r789");
        rates(x, 9, 0, 127);
        x.image();
        row(x, 0, 1, 0, 1000, 5, -1);
        row(x, 1, 1, 7, 8, 9);
        type(x, "p11/0");
    }

    /** One cut of two, no image, a row in each sheet but the first. */
    private static void rope(LinkDays x) {
        read(x, "p124/0");
        row(x, 1, 1, 5, 6, 7);
        row(x, 2, 0, 8, 9);
        row(x, 3, 2, 10);
        type(x, "b21/0");
    }

    private static void type(LinkDays x, String text) {
        for (int i = 0; i < text.length(); i += 8) {
            String part = text.substring(i, Math.min(i + 8, text.length()));
            long w = 0;
            for (int j = 0; j < part.length(); j++) w = w << 8 | part.charAt(j);
            x.type(w, part.length());
        }
    }

    private static int read(LinkDays x, String text) {
        type(x, text);
        return x.chain();
    }

    private static void rates(LinkDays x, int... v) {
        for (int what = 0; what < 3; what++) x.rate(what, v[what]);
    }

    private static void row(LinkDays x, int sheet, int lane, long... items) {
        x.sheet(sheet, lane, items.length);
        for (int i = 0; i < items.length; i++) x.item(sheet, lane, i, items[i]);
    }

    // ---- all that can be seen of an object; looking uses it up

    private static List<Integer> look(LinkDays x) {
        List<Integer> all = new ArrayList<>();
        lookAtChain(x, all);
        lookAtDays(x, all);
        lookAtWorths(x, all);
        all.add(x.type(' ', 1));
        all.add(x.chain());
        lookAtChain(x, all);
        lookAtWorths(x, all);
        for (int what = 0; what < 3; what++) all.add(x.rate(what, what == 0 ? 1 : 0));
        read(x, "p" + ONES);
        for (int s = 0; s < 4; s++) lookAtSheet(x, s, all);
        all.add(x.restore());
        lookAtChain(x, all);
        lookAtWorths(x, all);
        for (int what = 0; what < 3; what++) all.add(x.rate(what, 1));
        for (int day = 1; day <= 8; day++) all.add(x.due(day));
        if (all.size() > 440) fail("looking takes " + all.size() + " calls");
        return all;
    }

    private static void lookAtChain(LinkDays x, List<Integer> all) {
        for (int what = 0; what < 6; what++) all.add(x.count(what));
        for (int i = 0; i < 5; i++) all.add(x.notch(i));
        int pieces = x.count(3);
        for (int i = 0; i < pieces; i++) for (int what = 0; what < 3; what++) all.add(x.piece(i, what));
    }

    private static void lookAtWorths(LinkDays x, List<Integer> all) {
        for (int i = 0; i < 24; i++) {
            int was = x.worth(i, 1);
            all.add(was);
            if (was < 0) return;
        }
    }

    private static void lookAtDays(LinkDays x, List<Integer> all) {
        for (int day = 1; day <= 60; day += 1 + day / 16) all.add(x.due(day));
        int far = x.far();
        all.add(far);
        all.add(x.kept());
        all.add(x.two(1));
        for (int k = 0; k <= 4; k++) for (int i = -1; i < k; i += 2) all.add(x.most(k, i));
        for (int n = 1; n <= 60; n += 7) all.add(x.fewest(n));
        for (int d = 0; d <= far; d += 3) all.add(x.handed(far, d));
        for (int i = -1; i < 5; i++) all.add(x.late(far, i));
    }

    /** A rope of 24 links of worth 1 tells an item from 1 to 12 by its first notch. */
    private static void lookAtSheet(LinkDays x, int s, List<Integer> all) {
        for (int lane = 0; lane < 3; lane++) {
            for (int i = 0; i < 25; i++) {
                int notch = x.seen(1, s, lane, i, 1, 0);
                all.add(notch);
                if (notch == NULL || notch == CAST || notch == INDEX) break;
            }
        }
        all.add(x.drop(s));
    }

    // ---- refused calls

    private static void fail(String what) {
        wrong++;
        System.out.println(what);
    }

    private static void refused(State state, String call, int want, ToIntFunction<LinkDays> ask) {
        calls++;
        LinkDays x = make(state);
        int got = ask.applyAsInt(x);
        if (got != want) fail(state + ": " + call + " answered " + got + ", due is " + want);
        sameAsTwin(state, call, x);
    }

    public static void main(String[] args) {
        looksAreSharp();
        tellingCalls();
        chainCalls();
        tapeCalls();
        faults();
        dayCalls();
        counterCalls();
        seenCalls();
        sheetCalls();
        copyCalls();
        System.out.println(wrong == 0 ? calls + " refused calls change nothing" : wrong + " answers are not as due");
        if (wrong != 0) System.exit(1);
    }

    /** Looking tells each thing that a call can change, or the rest of this test would say nothing. */
    private static void looksAreSharp() {
        tells(State.SMALL_BAR, List.of(x -> x.kind(0), x -> x.kind(2), x -> x.link(1), x -> x.worth(0, 9), x -> x.worth(4, 9),
            x -> x.cut(2), x -> x.mend(3), x -> x.type(' ', 1), x -> x.type('1', 1), x -> x.rate(0, 3), x -> x.rate(1, 16), x -> x.rate(2, 8),
            x -> x.image(), x -> x.sheet(0, 0, 0), x -> x.sheet(1, 0, 1), x -> x.sheet(1, 1, 0), x -> x.sheet(2, 1, 24), x -> x.drop(1),
            x -> x.item(2, 1, 23, 1), x -> x.item(2, 1, 6, 9), x -> x.copy(2, 6, 2, 5, 2), x -> x.film(2, 1, 0), x -> x.copy(3, 0, 3, 1, 1)));
        tells(State.FULL_CHAIN, List.of(x -> x.kind(0), x -> x.worth(0, 2), x -> x.worth(23, 4), x -> x.mend(21), x -> x.chain(),
            x -> x.rate(0, 2), x -> x.rate(1, 0), x -> x.rate(2, 0), x -> x.image(), x -> x.restore(), x -> x.sheet(3, 2, 1),
            x -> x.drop(2), x -> x.item(0, 0, 2, 12), x -> x.item(2, 2, 1, 1L << 32 | 11), x -> x.copy(1, 0, 1, 4, 1)));
        tells(State.NO_DAY, List.of(x -> x.link(9), x -> x.cut(2), x -> x.image() + x.link(1) + x.image() + x.kind(1) + x.restore(),
            x -> x.rate(0, 8), x -> x.rate(2, 126), x -> x.item(0, 1, 0, 1), x -> x.item(0, 1, 3, 12)));
    }

    private static void tells(State state, List<ToIntFunction<LinkDays>> changes) {
        List<Integer> due = look(make(state));
        for (int i = 0; i < changes.size(); i++) {
            LinkDays x = make(state);
            changes.get(i).applyAsInt(x);
            if (look(x).equals(due)) fail(state + ": looking does not tell change " + i);
        }
        if (!look(make(state)).equals(due)) fail(state + ": looking tells a change where there is none");
    }

    /** Calls that only tell change nothing, either. */
    private static void tellingCalls() {
        for (State s : State.values()) {
            for (int what = 0; what <= 5; what++) {
                int w = what;
                unchanged(s, "count(" + w + ")", x -> x.count(w));
            }
            for (int what = 0; what <= 2; what++) {
                int w = what;
                unchanged(s, "piece(0, " + w + ")", x -> x.piece(0, w));
            }
            unchanged(s, "due(1)", x -> x.due(1));
            unchanged(s, "due(60)", x -> x.due(60));
            for (int v : new int[] {0, 1, 216, 999}) unchanged(s, "pays(" + v + ")", x -> x.pays(v));
            unchanged(s, "far()", x -> x.far());
            unchanged(s, "kept()", x -> x.kept());
            for (int v : new int[] {1, 9}) unchanged(s, "two(" + v + ")", x -> x.two(v));
            for (int k : new int[] {0, 1}) unchanged(s, "most(" + k + ", -1)", x -> x.most(k, -1));
            unchanged(s, "most(1, 0)", x -> x.most(1, 0));
            unchanged(s, "fewest(0)", x -> x.fewest(0));
        }
        State full = State.FULL_CHAIN, bar = State.SMALL_BAR, day = State.NO_DAY;
        for (int i = 0; i < 5; i++) {
            int at = i;
            unchanged(full, "notch(" + i + ")", x -> x.notch(at));
            unchanged(full, "late(2, " + i + ")", x -> x.late(2, at));
        }
        for (int i = 0; i < 4; i++) {
            int at = i;
            unchanged(full, "most(4, " + i + ")", x -> x.most(4, at));
        }
        for (int v : new int[] {1, 5, 20}) unchanged(full, "fewest(" + v + ")", x -> x.fewest(v));
        for (int d : new int[] {0, 1, 7}) unchanged(full, "handed(7, " + d + ")", x -> x.handed(7, d));
        for (int d : new int[] {0, 1, 3}) unchanged(bar, "handed(3, " + d + ")", x -> x.handed(3, d));
        for (int i : new int[] {-1, 0, 1}) unchanged(bar, "late(3, " + i + ")", x -> x.late(3, i));
        for (int k = 0; k <= 3; k++) {
            int cuts = k;
            unchanged(full, "seen(" + k + ", 1, 1, 0, 1, -1)", x -> x.seen(cuts, 1, 1, 0, 1, -1));
            unchanged(bar, "seen(" + k + ", 2, 1, 6, 8, -1)", x -> x.seen(cuts, 2, 1, 6, 8, -1));
            unchanged(day, "seen(" + k + ", 1, 1, 0, 3, -1)", x -> x.seen(cuts, 1, 1, 0, 3, -1));
        }
        unchanged(full, "seen(3, 1, 1, 0, 1, 2)", x -> x.seen(3, 1, 1, 0, 1, 2));
        unchanged(bar, "sheet of no items, copied onto itself", x -> x.copy(1, 0, 1, 0, 0));
        unchanged(full, "nothing is copied", x -> x.copy(1, 5, 1, 0, 0));
        unchanged(full, "a row is copied onto itself", x -> x.copy(1, 0, 1, 0, 5));
    }

    private static void unchanged(State state, String call, ToIntFunction<LinkDays> ask) {
        LinkDays x = make(state);
        int got = ask.applyAsInt(x);
        if (got < 0) fail(state + ": " + call + " answered " + got);
        sameAsTwin(state, call, x);
    }

    private static void sameAsTwin(State state, String call, LinkDays x) {
        List<Integer> seen = look(x), due = look(make(state));
        if (!seen.equals(due)) fail(state + ": " + call + " has changed something: " + seen + ", due is " + due);
    }

    private static void chainCalls() {
        for (State s : State.values()) {
            for (int v : new int[] {-1, 4, LOW, HIGH}) refused(s, "kind(" + v + ")", BAD, x -> x.kind(v));
            for (int v : new int[] {0, 10, -1, LOW, HIGH}) {
                refused(s, "link(" + v + ")", BAD, x -> x.link(v));
                refused(s, "worth(0, " + v + ")", BAD, x -> x.worth(0, v));
                refused(s, "worth(-1, " + v + ")", BAD, x -> x.worth(-1, v));
            }
            for (int v : new int[] {-1, 24, 25, LOW, HIGH}) {
                refused(s, "worth(" + v + ", 5)", BAD, x -> x.worth(v, 5));
                refused(s, "cut(" + v + ")", BAD, x -> x.cut(v));
                refused(s, "mend(" + v + ")", BAD, x -> x.mend(v));
            }
            for (int v : new int[] {-1, 6, LOW, HIGH}) refused(s, "count(" + v + ")", BAD, x -> x.count(v));
            for (int v : new int[] {-1, 11, LOW, HIGH}) refused(s, "piece(" + v + ", 0)", BAD, x -> x.piece(v, 0));
            for (int v : new int[] {-1, 3, LOW, HIGH}) refused(s, "piece(0, " + v + ")", BAD, x -> x.piece(0, v));
            for (int v : new int[] {-1, 5, LOW, HIGH}) refused(s, "notch(" + v + ")", BAD, x -> x.notch(v));
        }
        State full = State.FULL_CHAIN, bar = State.SMALL_BAR;
        for (int v = 1; v <= 9; v += 4) {
            int worth = v;
            refused(full, "link(" + v + ")", FULL, x -> x.link(worth));
        }
        for (int v : new int[] {1, 4, 9, 16, 21}) refused(full, "it is cut, and 5 are: cut(" + v + ")", NOT, x -> x.cut(v));
        for (int v : new int[] {0, 2, 23}) {
            refused(full, "5 are: cut(" + v + ")", FULL, x -> x.cut(v));
            refused(full, "mend(" + v + ")", NOT, x -> x.mend(v));
        }
        for (int v : new int[] {0, 3}) refused(bar, "cut(" + v + ")", NOT, x -> x.cut(v));
        for (int v : new int[] {1, 2}) refused(bar, "mend(" + v + ")", NOT, x -> x.mend(v));
        refused(bar, "behind the last: cut(4)", BAD, x -> x.cut(4));
        refused(bar, "behind the last: mend(4)", BAD, x -> x.mend(4));
        refused(bar, "no such link: worth(5, 5)", BAD, x -> x.worth(5, 5));
        refused(bar, "no such link, no such worth: worth(5, 0)", BAD, x -> x.worth(5, 0));
        refused(bar, "piece(3, 0)", BAD, x -> x.piece(3, 0));
        refused(bar, "notch(2)", BAD, x -> x.notch(2));
        refused(State.NEW, "mend(0)", NOT, x -> x.mend(0));
        refused(State.NEW, "notch(0)", BAD, x -> x.notch(0));
    }

    private static void tapeCalls() {
        for (State s : State.values()) {
            for (int n : new int[] {0, 9, -1, LOW, HIGH}) refused(s, "type(blanks, " + n + ")", BAD, x -> x.type(BLANKS, n));
            for (long w : new long[] {0, 31, 127, 128, 255, -1}) {
                refused(s, "type(" + w + ", 1)", BAD, x -> x.type(w, 1));
                refused(s, "the last of eight is " + w, BAD, x -> x.type(BLANKS & ~255L | w & 255, 8));
                refused(s, "the first of eight is " + w, BAD, x -> x.type(BLANKS & -1L >>> 8 | w << 56, 8));
            }
        }
        for (int n = 1; n <= 8; n++) {
            int many = n;
            refused(State.FULL_CHAIN, "60 bytes: type(blanks, " + n + ")", FULL, x -> x.type(BLANKS, many));
        }
        refused(State.FULL_CHAIN, "60 bytes, and no such n", BAD, x -> x.type(BLANKS, 9));
        refused(State.FULL_CHAIN, "60 bytes, and no such byte", BAD, x -> x.type(31, 1));
    }

    /** A fault: all stays but THE TAPE, which is empty then. */
    private static void faults() {
        for (State s : State.values()) {
            for (String text : new String[] {"", " ", "x", "o", "o1x", "o12/", "o12/2", "r12/0,0", "p12/1", "b12/0,", "o0", "o111111/0,1,2,3,4,5"}) {
                calls++;
                LinkDays x = make(s), twin = make(s);
                LinkDays[] both = {x, twin};
                for (LinkDays y : both) keepButTape(y);
                int got = read(x, text);
                if (got > -20) fail(s + ": '" + text + "' answered " + got);
                if (!look(x).equals(look(twin))) fail(s + ": the fault '" + text + "' has changed something");
            }
        }
        refusedTape(State.FULL_CHAIN, 17);
        refusedTape(State.NO_DAY, 2);
    }

    /** Empties the tape, the chain being what it was. */
    private static void keepButTape(LinkDays x) {
        x.image();
        x.chain();
        x.restore();
    }

    private static void refusedTape(State state, int links) {
        LinkDays x = make(state);
        int got = x.chain();
        if (got != links) fail(state + ": its tape answered " + got);
    }

    private static void dayCalls() {
        for (State s : State.values()) {
            for (int v : new int[] {0, 10, LOW, HIGH}) {
                refused(s, "rate(0, " + v + ")", BAD, x -> x.rate(0, v));
                refused(s, "two(" + v + ")", BAD, x -> x.two(v));
            }
            for (int v : new int[] {-1, 128, LOW, HIGH}) for (int what = 1; what <= 2; what++) {
                int w = what;
                refused(s, "rate(" + w + ", " + v + ")", BAD, x -> x.rate(w, v));
            }
            for (int v : new int[] {-1, 3, LOW, HIGH}) refused(s, "rate(" + v + ", 1)", BAD, x -> x.rate(v, 1));
            for (int v : new int[] {0, 61, -1, LOW, HIGH}) refused(s, "due(" + v + ")", BAD, x -> x.due(v));
            for (int v : new int[] {-1, 1000, LOW, HIGH}) refused(s, "pays(" + v + ")", BAD, x -> x.pays(v));
            for (int v : new int[] {-1, 5, LOW, HIGH}) for (int i = -1; i <= 4; i += 5) {
                int at = i;
                refused(s, "most(" + v + ", " + i + ")", BAD, x -> x.most(v, at));
            }
            for (int v : new int[] {-2, 4, LOW, HIGH}) for (int k = 0; k <= 4; k += 4) {
                int cuts = k;
                refused(s, "no such i, no i-th, perhaps not so many notches: most(" + k + ", " + v + ")", BAD, x -> x.most(cuts, v));
            }
            for (int v : new int[] {-1, 61, LOW, HIGH}) refused(s, "fewest(" + v + ")", BAD, x -> x.fewest(v));
            for (int k = 0; k <= 3; k++) for (int i = k; i <= 3; i++) {
                int cuts = k, at = i;
                refused(s, "no i-th: most(" + k + ", " + i + ")", NONE, x -> x.most(cuts, at));
            }
            refused(s, "not by 4: fewest(60)", NONE, x -> x.fewest(60));
        }
        for (int i = -1; i <= 3; i++) {
            int at = i;
            refused(State.NO_DAY, "3 notches: most(4, " + i + ")", NONE, x -> x.most(4, at));
            refused(State.NEW, "1 notch: most(2, " + i + ")", NONE, x -> x.most(2, at));
        }
        refused(State.NO_DAY, "fewest(1)", NONE, x -> x.fewest(1));
    }

    private static void counterCalls() {
        for (State s : State.values()) {
            for (int v : new int[] {0, 61, -1, LOW, HIGH}) {
                refused(s, "handed(" + v + ", 0)", BAD, x -> x.handed(v, 0));
                refused(s, "late(" + v + ", -1)", BAD, x -> x.late(v, -1));
                refused(s, "no such n, no such i: late(" + v + ", 5)", BAD, x -> x.late(v, 5));
            }
            for (int v : new int[] {-1, 2, LOW, HIGH}) refused(s, "perhaps FAR is less: handed(1, " + v + ")", BAD, x -> x.handed(1, v));
            for (int v : new int[] {-1, 61, LOW, HIGH}) refused(s, "FAR is less: handed(60, " + v + ")", BAD, x -> x.handed(60, v));
            for (int v : new int[] {-2, 5, LOW, HIGH}) {
                refused(s, "perhaps FAR is less, no i-th: late(1, " + v + ")", BAD, x -> x.late(1, v));
                refused(s, "FAR is less, no i-th: late(60, " + v + ")", BAD, x -> x.late(60, v));
            }
            for (int d : new int[] {0, 1, 60}) refused(s, "handed(60, " + d + ")", NOT, x -> x.handed(60, d));
            for (int i = -1; i <= 4; i++) {
                int at = i;
                refused(s, "perhaps no i-th: late(60, " + i + ")", NOT, x -> x.late(60, at));
            }
        }
        refused(State.NO_DAY, "handed(1, 0)", NOT, x -> x.handed(1, 0));
        refused(State.NO_DAY, "no i-th: late(1, 0)", NOT, x -> x.late(1, 0));
        refused(State.NEW, "late(1, 0)", NONE, x -> x.late(1, 0));
        refused(State.NEW, "late(1, 4)", NONE, x -> x.late(1, 4));
        refused(State.NEW, "restore()", NONE, x -> x.restore());
        refused(State.SMALL_BAR, "restore()", NONE, x -> x.restore());
        refused(State.ROPE, "restore()", NONE, x -> x.restore());
        for (int i = 1; i <= 4; i++) {
            int at = i;
            refused(State.ROPE, "one cut: late(1, " + i + ")", NONE, x -> x.late(1, at));
        }
        refused(State.SMALL_BAR, "late(1, 2)", NONE, x -> x.late(1, 2));
        refused(State.SMALL_BAR, "late(1, 4)", NONE, x -> x.late(1, 4));
    }

    private static void seenCalls() {
        State full = State.FULL_CHAIN, bar = State.SMALL_BAR, day = State.NO_DAY;
        for (int v : new int[] {-1, 4, LOW, HIGH}) {
            refused(full, "no such k: " + v, BAD, x -> x.seen(v, 1, 1, 0, 1, -1));
            refused(full, "no such k, nothing there: " + v, BAD, x -> x.seen(v, 3, 1, 0, 1, -1));
            refused(full, "no such k, another lane: " + v, BAD, x -> x.seen(v, 1, 0, 0, 1, -1));
            refused(full, "no such k, no such item: " + v, BAD, x -> x.seen(v, 1, 1, 5, 1, -1));
            refused(day, "no such k, no worth: " + v, BAD, x -> x.seen(v, 0, 1, 0, 1, -1));
            refused(full, "no such sheet: " + v, BAD, x -> x.seen(1, v, 1, 0, 1, -1));
            refused(full, "no such sheet, no such item: " + v, BAD, x -> x.seen(1, v, 1, -1, 1, -1));
        }
        for (int v : new int[] {-1, 3, LOW, HIGH}) {
            refused(full, "no such lane: " + v, BAD, x -> x.seen(1, 1, v, 0, 1, -1));
            refused(full, "no such lane, nothing there: " + v, BAD, x -> x.seen(1, 3, v, 0, 1, -1));
            refused(full, "no such lane, no such item: " + v, BAD, x -> x.seen(1, 1, v, 9, 1, -1));
        }
        for (int v : new int[] {0, 9, -1, LOW, HIGH}) {
            refused(full, "no such n: " + v, BAD, x -> x.seen(1, 1, 1, 0, v, -1));
            refused(full, "no such n, nothing there: " + v, BAD, x -> x.seen(1, 3, 1, 0, v, -1));
            refused(full, "no such n, another lane: " + v, BAD, x -> x.seen(1, 0, 1, 0, v, -1));
            refused(full, "no such n, no such item: " + v, BAD, x -> x.seen(1, 1, 1, 5, v, -1));
            refused(day, "no such n, no worth: " + v, BAD, x -> x.seen(1, 0, 1, 0, v, -1));
        }
        for (int v : new int[] {-2, 3, LOW, HIGH}) {
            refused(full, "no such j: " + v, BAD, x -> x.seen(3, 1, 1, 0, 1, v));
            refused(full, "no such j, nothing there: " + v, BAD, x -> x.seen(3, 3, 1, 0, 1, v));
            refused(full, "no such j, another lane: " + v, BAD, x -> x.seen(3, 0, 1, 0, 1, v));
            refused(full, "no such j, no such item: " + v, BAD, x -> x.seen(3, 1, 1, 5, 1, v));
            refused(day, "no such j, no worth: " + v, BAD, x -> x.seen(3, 0, 1, 0, 1, v));
            refused(full, "no such j, no j-th: " + v, BAD, x -> x.seen(0, 1, 1, 0, 1, v));
        }
        for (int i : new int[] {0, 5, -1, LOW, HIGH}) {
            refused(full, "nothing there, perhaps no such item: " + i, NULL, x -> x.seen(1, 3, 1, i, 1, -1));
            refused(full, "another lane, perhaps no such item: " + i, CAST, x -> x.seen(1, 1, 2, i, 1, -1));
            refused(day, "another lane, perhaps no worth: " + i, CAST, x -> x.seen(1, 0, 2, i, 1, 2));
        }
        for (int i : new int[] {4, 5, -1, LOW, HIGH}) refused(full, "no such item: " + i, INDEX, x -> x.seen(1, 1, 1, i, 2, -1));
        refused(bar, "an empty row", INDEX, x -> x.seen(1, 1, 0, 0, 1, -1));
        refused(bar, "no worth, and no such item behind it", INDEX, x -> x.seen(1, 3, 2, 2, 3, -1));
        refused(day, "no worth, and no such item behind it", INDEX, x -> x.seen(1, 0, 1, 3, 2, 0));
        refused(day, "no such item, no j-th", INDEX, x -> x.seen(1, 0, 1, 4, 1, 2));
        refused(day, "0", NOT, x -> x.seen(1, 0, 1, 0, 1, -1));
        refused(day, "1000", NOT, x -> x.seen(1, 0, 1, 1, 1, -1));
        refused(day, "a worth, then none", NOT, x -> x.seen(1, 0, 1, 2, 2, -1));
        refused(day, "no worth, no j-th", NOT, x -> x.seen(0, 0, 1, 0, 1, 0));
        refused(day, "no worth, no set", NOT, x -> x.seen(1, 0, 1, 2, 2, 0));
        refused(day, "there is none", NONE, x -> x.seen(1, 0, 1, 2, 1, 0));
        refused(day, "no j-th", NONE, x -> x.seen(1, 1, 1, 0, 1, 1));
        refused(day, "no j-th by no cut", NONE, x -> x.seen(0, 1, 1, 0, 1, 0));
    }

    private static void sheetCalls() {
        for (State s : State.values()) {
            for (int v : new int[] {-1, 4, LOW, HIGH}) {
                refused(s, "sheet(" + v + ", 1, 1)", BAD, x -> x.sheet(v, 1, 1));
                refused(s, "and n below 0: sheet(" + v + ", 1, -1)", BAD, x -> x.sheet(v, 1, -1));
                refused(s, "drop(" + v + ")", BAD, x -> x.drop(v));
                refused(s, "film(" + v + ", 1, 0)", BAD, x -> x.film(v, 1, 0));
                refused(s, "and no such item: film(" + v + ", 1, -1)", BAD, x -> x.film(v, 1, -1));
                refused(s, "item(" + v + ", 1, 0, 1)", BAD, x -> x.item(v, 1, 0, 1));
                refused(s, "and no such item: item(" + v + ", 1, -1, 1)", BAD, x -> x.item(v, 1, -1, 1));
            }
            for (int v : new int[] {-1, 3, LOW, HIGH}) for (int sheet = 0; sheet < 4; sheet++) {
                int at = sheet;
                refused(s, "sheet(" + at + ", " + v + ", 1)", BAD, x -> x.sheet(at, v, 1));
                refused(s, "and n below 0: sheet(" + at + ", " + v + ", -1)", BAD, x -> x.sheet(at, v, -1));
                refused(s, "perhaps nothing there: film(" + at + ", " + v + ", 0)", BAD, x -> x.film(at, v, 0));
                refused(s, "perhaps nothing there: item(" + at + ", " + v + ", -1, 1)", BAD, x -> x.item(at, v, -1, 1));
            }
            for (int sheet = 0; sheet < 4; sheet++) {
                int at = sheet;
                for (int n : new int[] {25, HIGH}) refused(s, "sheet(" + at + ", 1, " + n + ")", BAD, x -> x.sheet(at, 1, n));
                for (int n : new int[] {-1, LOW}) refused(s, "sheet(" + at + ", 1, " + n + ")", SIZE, x -> x.sheet(at, 1, n));
            }
        }
        for (State s : State.values()) {
            int empty = s == State.SMALL_BAR || s == State.ROPE ? 0 : 3;
            refused(s, "nothing there: drop", NULL, x -> x.drop(empty));
            for (int i : new int[] {0, -1, 24, HIGH}) {
                refused(s, "nothing there, perhaps no such item: film", NULL, x -> x.film(empty, 1, i));
                refused(s, "nothing there, perhaps no such item: item", NULL, x -> x.item(empty, 1, i, 1));
            }
        }
        State full = State.FULL_CHAIN, bar = State.SMALL_BAR;
        for (int i : new int[] {0, -1, 5, LOW, HIGH}) {
            refused(full, "another lane, perhaps no such item: film", CAST, x -> x.film(1, 0, i));
            refused(full, "another lane, perhaps no such item: item", CAST, x -> x.item(1, 2, i, 1));
            refused(bar, "another lane of an empty row: item", CAST, x -> x.item(1, 1, i, 1));
            refused(bar, "an empty row: item", INDEX, x -> x.item(1, 0, i, 1));
            refused(bar, "an empty row: film", INDEX, x -> x.film(1, 0, i));
            refused(full, "11 pieces, 5 items: film", INDEX, x -> x.film(1, 1, i));
        }
        for (int i : new int[] {-1, 22, 23, 24, LOW, HIGH}) refused(bar, "3 pieces, 24 items: film(2, 1, " + i + ")", INDEX, x -> x.film(2, 1, i));
        for (int i : new int[] {-1, 24, LOW, HIGH}) refused(bar, "24 items: item(2, 1, " + i + ", 1)", INDEX, x -> x.item(2, 1, i, 1));
    }

    private static void copyCalls() {
        State full = State.FULL_CHAIN, bar = State.SMALL_BAR;
        for (State s : State.values()) {
            for (int v : new int[] {-1, 4, LOW, HIGH}) for (int other = 0; other < 4; other++) {
                int at = other;
                refused(s, "copy(" + v + ", 0, " + at + ", 0, 1)", BAD, x -> x.copy(v, 0, at, 0, 1));
                refused(s, "copy(" + at + ", 0, " + v + ", 0, 1)", BAD, x -> x.copy(at, 0, v, 0, 1));
                refused(s, "and no such items: copy(" + at + ", -1, " + v + ", 0, -1)", BAD, x -> x.copy(at, -1, v, 0, -1));
            }
            refused(s, "no such sheets", BAD, x -> x.copy(-1, 0, 4, 0, 1));
        }
        for (int i : new int[] {0, -1, 9, HIGH}) for (int other = 0; other < 4; other++) {
            int at = other;
            refused(full, "nothing at the other, perhaps no such items", NULL, x -> x.copy(at, i, 3, i, 1));
            refused(full, "nothing at the one, perhaps no such items", NULL, x -> x.copy(3, i, at, i, 1));
            refused(full, "nothing, and n below 0", NULL, x -> x.copy(3, i, at, i, -1));
        }
        for (int i : new int[] {0, -1, 9, HIGH}) {
            refused(full, "unlike lanes, perhaps no such items", CAST, x -> x.copy(0, i, 1, 0, 1));
            refused(full, "unlike lanes, perhaps no such items", CAST, x -> x.copy(1, 0, 2, i, 1));
            refused(full, "unlike lanes, perhaps n below 0", CAST, x -> x.copy(2, 0, 0, 0, i));
            refused(bar, "unlike lanes, one of them empty", CAST, x -> x.copy(2, 0, 1, i, 0));
        }
        int[][] fours = {{-1, 0, 1}, {0, -1, 1}, {0, 0, -1}, {4, 0, 2}, {0, 4, 2}, {5, 0, 1}, {0, 5, 1}, {0, 0, 6}, {6, 0, 0}, {0, 6, 0},
            {0, 0, HIGH}, {HIGH, 0, 1}, {0, HIGH, 1}, {LOW, LOW, LOW}, {HIGH, HIGH, HIGH}, {1, 0, 5}, {0, 1, 5}};
        for (int[] f : fours) {
            refused(full, "copy(1, " + f[0] + ", 1, " + f[1] + ", " + f[2] + ")", INDEX, x -> x.copy(1, f[0], 1, f[1], f[2]));
        }
        refused(bar, "an empty row", INDEX, x -> x.copy(1, 0, 1, 0, 1));
    }
}
