import java.nio.file.Files;
import java.nio.file.Path;
import java.util.ArrayList;
import java.util.List;
import java.util.function.IntUnaryOperator;

/**
 * Each sentence of the document, word by word, with a test of its own: the last value that is taken and
 * the first that is not, on both sides; empty, full, round the end. No sentence may be left out.
 */
public final class LinkDaysEdges {
    private static final int BAD = -1, NOT = -2, FULL = -3, NONE = -4, NULL = -11, CAST = -12, INDEX = -13, SIZE = -14;
    private static final int LOW = Integer.MIN_VALUE, HIGH = Integer.MAX_VALUE;
    private static final String ONES = "111111111111111111111111", NINES = "999999999999999999999999";
    /** Pieces 1, 2, 4, 8, 16 and the rest: each sum up to all of it, 59, 60 or 63, is paid. */
    private static final String TO_59 = "p1248889991/0,1,2,3,5", TO_60 = "p1248889992/0,1,2,3,5", TO_63 = "p1248889995/0,1,2,3,5";
    private static int wrong = 0, sentences = 0, asked = 0, calls = 0;
    private static String sentence = "";
    private static final List<String> quotes = new ArrayList<>();
    private static LinkDays x = new LinkDays();

    /** What the document says; what follows is asked of a new object. */
    private static void says(String text) {
        if (sentences > 0 && asked == 0) fail("nothing was asked");
        renew();
        sentence = text;
        quotes.add(text);
        sentences++;
        asked = 0;
    }

    /** One object is asked 512 times at most: what it answers later is free. */
    private static void renew() {
        if (calls > 512) fail("an object was asked " + calls + " times");
        calls = 0;
        x = new LinkDays();
    }

    private static void fail(String what) {
        wrong++;
        System.out.println("'" + sentence + "': " + what);
    }

    private static void due(String call, int got, int want) {
        asked++;
        calls++;
        if (got != want) fail(call + " answered " + got + ", due is " + want);
    }

    /** What lies just outside low .. high, and far outside, is refused. */
    private static void outside(String call, int low, int high, int want, IntUnaryOperator ask) {
        for (int v : new int[] {low - 1, high + 1, LOW, HIGH, low - 256, high + 256, low - 65536, high + 65536}) {
            if (v < low || v > high) due(call + " of " + v, ask.applyAsInt(v), want);
        }
    }

    private static void type(String text) {
        for (int i = 0; i < text.length(); i += 8) {
            String part = text.substring(i, Math.min(i + 8, text.length()));
            long w = 0;
            for (int j = 0; j < part.length(); j++) w = w << 8 | part.charAt(j);
            x.type(w, part.length());
            calls++;
        }
    }

    private static int read(String text) {
        type(text);
        return x.chain();
    }

    private static void chain(String text) {
        int links = read(text);
        calls++;
        if (links < 1) due("chain() of " + text, links, 1);
    }

    private static void text(String text, int want) {
        due("chain() of '" + text + "'", read(text), want);
    }

    private static void cutAll(int... notches) {
        for (int i = 0; i < notches.length; i++) due("cut(" + notches[i] + ")", x.cut(notches[i]), i + 1);
    }

    private static void row(int sheet, int lane, long... items) {
        x.sheet(sheet, lane, items.length);
        calls += 1 + items.length;
        for (int i = 0; i < items.length; i++) x.item(sheet, lane, i, items[i]);
    }

    /** First link, how many links, worth of each piece. */
    private static void pieces(String what, int... threes) {
        due(what + ": count(3)", x.count(3), threes.length / 3);
        int worth = 0;
        for (int i = 0; i < threes.length; i++) {
            due(what + ": piece(" + i / 3 + ", " + i % 3 + ")", x.piece(i / 3, i % 3), threes[i]);
            if (i % 3 == 2) worth += threes[i];
        }
        due(what + ": count(4)", x.count(4), worth);
    }

    private static void set(int... rates) {
        calls += 3;
        for (int what = 0; what < 3; what++) x.rate(what, rates[what]);
    }

    public static void main(String[] args) throws Exception {
        answersAndCalls();
        refusals();
        links();
        kinds();
        notches();
        pieces();
        ringPieces();
        barPieces();
        cuts();
        tapes();
        texts();
        faults();
        looks();
        rates();
        week();
        paid();
        terms();
        far();
        kept();
        two();
        most();
        fewest();
        handed();
        late();
        images();
        seen();
        seenWorths();
        films();
        sheets();
        items();
        copies();
        if (asked == 0) fail("nothing was asked");
        sentence = "the document";
        document();
        System.out.println(wrong == 0 ? sentences + " sentences hold" : wrong + " answers are not as due");
        if (wrong != 0) System.exit(1);
    }

    /** What the document has beside its sentences: heads, signatures, names ahead of a colon. */
    private static final String HEADS = "## Terms|## Promise \\d+: [\\w ]+ `[^`]*`:|==== \\d|```(text)?|FAULTS:|SEEN:|SEEN, by k CUTS:"
        + "|Ahead of the calls [^:]* the interface says: ---- (1 the chain|2 days|3 counters|4)";

    /** Each quote stands in the document, and all that it says is quoted. */
    private static void document() throws Exception {
        Path source = Path.of(System.getProperty("linkdays.source", "src/main/java/LinkDays.java")).toAbsolutePath().normalize();
        Path file = source.getParent().getParent().getParent().getParent().resolveSibling("shared").resolve("DOC.md");
        if (!Files.isReadable(file)) {
            System.out.println("there is no " + file + ": quotes are not held against it");
            return;
        }
        String all = Files.readString(file).replaceAll("\\s+", " ");
        StringBuilder left = new StringBuilder(all);
        for (String quote : quotes) {
            int at = all.indexOf(quote);
            if (at < 0) fail("it doesn't say: " + quote);
            for (; at >= 0; at = all.indexOf(quote, at + 1)) {
                for (int i = at; i < at + quote.length(); i++) left.setCharAt(i, '\n');
            }
        }
        int from = all.indexOf("## Terms"), to = all.indexOf("## Not promised");
        if (from < 0 || to < from) fail("its heads are other ones");
        else for (String rest : left.substring(from, to).replaceAll(HEADS, "\n").split("\n+")) {
            if (rest.matches(".*\\w.*")) fail("no test quotes: " + rest);
        }
    }

    // ---- terms

    private static void answersAndCalls() {
        says("BAD = -1, NOT = -2, FULL = -3, NONE = -4, NULL = -11, CAST = -12, INDEX = -13, SIZE = -14");
        int[] told = {LinkDays.BAD, LinkDays.NOT, LinkDays.FULL, LinkDays.NONE, LinkDays.NULL, LinkDays.CAST, LinkDays.INDEX, LinkDays.SIZE};
        int[] want = {BAD, NOT, FULL, NONE, NULL, CAST, INDEX, SIZE};
        for (int i = 0; i < want.length; i++) due("constant " + i, told[i], want[i]);

        says("An object is used for at most 512 calls after it has been made");
        for (int i = 1; i <= 170; i++) {
            due("type, call " + (3 * i - 2), x.type(0x6F313131L, 4), 4);
            due("chain(), call " + (3 * i - 1), x.chain(), 3);
            due("cut(1), call " + 3 * i, x.cut(1), 1);
        }
        due("image(), call 511", x.image(), 1);
        due("far(), call 512", x.far(), 3);
        renew();
        for (int i = 1; i <= 511; i++) due("sheet, call " + i, x.sheet(i % 4, i % 3, 24), 24);
        due("drop(0), call 512", x.drop(0), 24);
        renew();
        for (int i = 1; i <= 511; i++) due("restore(), call " + i, x.restore(), NONE);
        due("restore(), call 512", x.restore(), NONE);
    }

    private static void refusals() {
        says("Answers below 0, of several the first that a call names: BAD -1 (a number is not as told, there is no such thing), NOT -2 (as told), FULL -3, NONE -4 (as told), CAST -12 (of SHEETS another LANE); what the machine finds: NULL -11, INDEX -13, SIZE -14 (NULL, CAST, INDEX, SIZE in this order).");
        chain("o" + ONES + "/0,1,2,3,4");
        due("24 links, and no worth: link", x.link(10), BAD);
        due("24 links: link", x.link(9), FULL);
        due("5 cuts, and no notch: cut", x.cut(24), BAD);
        due("5 cuts, and cut already: cut", x.cut(4), NOT);
        due("5 cuts: cut", x.cut(5), FULL);
        while (x.type(0x2020202020202020L, 4) < 60) calls++;
        due("60 bytes, and byte 31: type", x.type(31, 1), BAD);
        due("60 bytes, and no n: type", x.type(32, 0), BAD);
        due("60 bytes: type", x.type(32, 1), FULL);
        due("60 blanks: chain", x.chain(), -80);
        chain("o12/0");
        due("too many cuts, and no i: most", x.most(4, 4), BAD);
        due("too many cuts: most", x.most(4, 3), NONE);
        due("FAR is less, and no day: handed", x.handed(4, 5), BAD);
        due("FAR is less: handed", x.handed(4, 4), NOT);
        due("FAR is less, and no i: late", x.late(4, 5), BAD);
        due("FAR is less, and no i-th: late", x.late(4, 4), NOT);
        due("no i-th: late", x.late(3, 4), NONE);
        due("no sheet, and n below 0: sheet", x.sheet(4, 0, -1), BAD);
        due("no lane, and n below 0: sheet", x.sheet(0, 3, -1), BAD);
        due("n below 0: sheet", x.sheet(0, 0, -1), SIZE);
        row(0, 1, 0, 1);
        row(1, 2, 1);
        due("nothing there, and no lane: item", x.item(2, 3, 9, 1), BAD);
        due("nothing there, and no such item: item", x.item(2, 0, 9, 1), NULL);
        due("another lane, and no such item: item", x.item(0, 0, 9, 1), CAST);
        due("no such item: item", x.item(0, 1, 9, 1), INDEX);
        due("nothing there, and no lane: film", x.film(2, 3, 9), BAD);
        due("nothing there, and no such item: film", x.film(2, 0, 9), NULL);
        due("another lane, and no such item: film", x.film(0, 0, 9), CAST);
        due("no such item: film", x.film(0, 1, 1), INDEX);
        due("nothing there, and no sheet: copy", x.copy(2, 9, 4, 9, 9), BAD);
        due("nothing at the one, no such items: copy", x.copy(2, 9, 0, 9, 9), NULL);
        due("nothing at the other, no such items: copy", x.copy(0, 9, 2, 9, 9), NULL);
        due("unlike lanes, no such items: copy", x.copy(0, 9, 1, 9, 9), CAST);
        due("no such items: copy", x.copy(0, 9, 0, 9, 9), INDEX);
        for (int bad = 0; bad < 4; bad++) {
            due("nothing there, and a number: seen", x.seen(bad == 0 ? 4 : 1, 2, bad == 1 ? 3 : 0, 9, bad == 2 ? 9 : 1, bad == 3 ? 3 : 0), BAD);
        }
        due("nothing there, and no such item: seen", x.seen(1, 2, 0, 9, 1, 0), NULL);
        due("another lane, and no such item: seen", x.seen(1, 0, 0, 9, 1, 0), CAST);
        due("no such item behind one that is no worth: seen", x.seen(1, 0, 1, 0, 3, 0), INDEX);
        due("no worth, and no j-th: seen", x.seen(1, 0, 1, 0, 2, 2), NOT);
        due("no j-th: seen", x.seen(1, 0, 1, 1, 1, 2), NONE);

        says("What is refused changes nothing, but as told.");
        chain("b234/0");
        x.image();
        chain("o12/0");
        row(0, 1, 2, 3);
        type("p11");
        for (int v : new int[] {LOW, -1, 99, HIGH}) {
            due("kind", x.kind(v), BAD);
            due("link", x.link(v), BAD);
            due("worth", x.worth(0, v), BAD);
            due("cut", x.cut(v), BAD);
            due("mend", x.mend(v), BAD);
            due("type", x.type(32, v), BAD);
            due("rate", x.rate(0, v), BAD);
            due("sheet", x.sheet(0, v, 1), BAD);
            due("drop", x.drop(v), BAD);
            due("item", x.item(0, 1, v, 1), INDEX);
            due("film", x.film(0, 1, v), INDEX);
            due("copy", x.copy(0, 0, 0, 1, v), INDEX);
        }
        due("cut again", x.cut(0), NOT);
        due("mend what is not cut", x.mend(1), NOT);
        pieces("all stays", 0, 1, 1, 1, 1, 2);
        due("the rate", x.due(60), 60);
        due("the items", x.seen(0, 0, 1, 0, 2, -1), 0);
        due("the row", x.drop(0), 2);
        due("the tape", x.type('x', 1), 4);
        due("as told: the tape is empty then", x.chain(), -23);
        due("as told: the tape is empty then", x.chain(), -20);
        pieces("all stays", 0, 1, 1, 1, 1, 2);
        due("the image", x.restore(), 1);
        pieces("as it was then", 0, 1, 1, 1, 2, 7);
    }

    // ---- 1 the chain

    private static void links() {
        says("THE CHAIN has LINKS 0, 1 and so on (1 .. 24; one of WORTH 1 at first)");
        due("count(0) at first", x.count(0), 1);
        due("worth(0, 1) at first", x.worth(0, 1), 1);
        for (int n = 2; n <= 24; n++) due("link(1)", x.link(1), n);
        due("the 25th", x.link(1), FULL);
        due("count(0)", x.count(0), 24);
        due("worth of the last", x.worth(23, 2), 1);
        due("worth of one behind it", x.worth(24, 2), BAD);

        says("One link.");
        pieces("new", 0, 1, 1);
        due("count(1)", x.count(1), 1);
        due("count(2)", x.count(2), 0);
        due("count(5)", x.count(5), 0);
        due("rate(0, 2)", x.rate(0, 2), 1);
        due("rate(1, 1)", x.rate(1, 1), 0);
        due("rate(2, 1)", x.rate(2, 1), 0);
        due("restore()", x.restore(), NONE);
        due("the tape is empty", x.chain(), -20);
        for (int s = 0; s < 4; s++) due("drop(" + s + ")", x.drop(s), NULL);

        says("each of a WORTH (1 .. 9)");
        due("link(1)", x.link(1), 2);
        due("link(9)", x.link(9), 3);
        outside("link", 1, 9, BAD, v -> x.link(v));
        due("worth(2, 1)", x.worth(2, 1), 9);
        due("worth(2, 9)", x.worth(2, 9), 1);
        outside("worth(2, ..)", 1, 9, BAD, v -> x.worth(2, v));
        due("count(4)", x.count(4), 11);

        says("A LINK of a WORTH comes behind all: how many there are. BAD; FULL: 24.");
        chain("o" + ONES.substring(1) + "/22");
        due("23 links: link(7)", x.link(7), 24);
        due("it is the last", x.worth(23, 7), 7);
        pieces("behind a link that is cut", 0, 22, 22, 22, 1, 1, 23, 1, 7);
        for (int v = 1; v <= 9; v++) due("24 links: link(" + v + ")", x.link(v), FULL);
        outside("24 links: link", 1, 9, BAD, v -> x.link(v));
        due("count(0)", x.count(0), 24);
        due("count(2)", x.count(2), 1);

        says("WORTH of a LINK: what it was. BAD.");
        chain("o123");
        due("the first", x.worth(0, 9), 1);
        due("the last", x.worth(2, 8), 3);
        outside("worth(.., 5)", 0, 2, BAD, v -> x.worth(v, 5));
        due("no such link and no such worth", x.worth(3, 10), BAD);
        due("count(4)", x.count(4), 19);
        x.link(4);
        due("one more", x.worth(3, 6), 4);
    }

    private static void kinds() {
        says("It is of a KIND: 0 OPEN (at first); below it 1 RING, 2 ROPE; 3 BAR (below ROPE)");
        due("count(5) at first", x.count(5), 0);
        for (int v = 0; v <= 3; v++) {
            due("kind(" + v + ")", x.kind(v), v == 0 ? 0 : v - 1);
            due("count(5)", x.count(5), v);
        }
        outside("kind", 0, 3, BAD, v -> x.kind(v));
        due("count(5)", x.count(5), 3);

        says("THE CHAIN is of a KIND (nothing is CUT then): what it was. BAD.");
        for (int from = 0; from <= 3; from++) {
            for (int to = 0; to <= 3; to++) {
                x.kind(from);
                x.link(1);
                x.cut(0);
                due("one is cut", x.count(2), 1);
                due("kind(" + to + ")", x.kind(to), from);
                due("nothing is cut", x.count(2), 0);
                due("notch(0)", x.notch(0), BAD);
                due("one piece", x.count(3), 1);
            }
        }
    }

    private static void notches() {
        says("NOTCHES are where it can be cut: of an OPEN one and a RING each LINK, of a ROPE and a BAR each LINK but the last one (that is behind it).");
        for (int kind = 0; kind < 4; kind++) {
            for (int links : new int[] {1, 2, 3, 23, 24}) {
                renew();
                chain("orpb".charAt(kind) + ONES.substring(0, links));
                int notches = kind < 2 ? links : links - 1;
                String which = links + " links, kind " + kind + ": ";
                due(which + "count(1)", x.count(1), notches);
                outside(which + "cut", 0, notches - 1, BAD, v -> x.cut(v));
                outside(which + "mend", 0, notches - 1, BAD, v -> x.mend(v));
                if (notches > 0) due(which + "the last", x.cut(notches - 1), 1);
                if (notches > 1) due(which + "the first", x.cut(0), 2);
                if (notches > 0) due(which + "mend the last", x.mend(notches - 1), notches > 1 ? 1 : 0);
            }
        }
        chain("p11");
        due("behind the last of a rope", x.cut(1), BAD);
        x.link(1);
        due("it is not the last any more", x.cut(1), 1);
        due("behind the new one", x.cut(2), BAD);
    }

    private static void pieces() {
        says("PIECES, by their first LINKS");
        int[][] first = {{0, 1, 2, 4, 5}, {1, 2, 4, 5}, {0, 2, 5}, {0, 2, 5}};
        for (int kind = 0; kind < 4; kind++) {
            chain("orpb".charAt(kind) + "9876543/4,1");
            due("how many, kind " + kind, x.count(3), first[kind].length);
            for (int i = 0; i < first[kind].length; i++) due("kind " + kind + ", piece " + i, x.piece(i, 0), first[kind][i]);
        }

        says("WORTH of a PIECE: of its LINKS together.");
        chain("o123456789/3");
        pieces("open", 0, 3, 6, 3, 1, 4, 4, 5, 35);
        chain("r123456789/3");
        pieces("ring", 3, 1, 4, 4, 8, 41);
        chain("p123456789/3");
        pieces("rope", 0, 4, 10, 4, 5, 35);
        chain("b123456789/3");
        pieces("bar", 0, 4, 9, 4, 5, 35);
        x.worth(1, 9);
        pieces("a link of another worth", 0, 4, 16, 4, 5, 35);

        says("an OPEN chain: a LINK that is CUT is a PIECE alone, so is each longest row of LINKS, one behind the other, that are not CUT.");
        chain("o12345");
        pieces("none cut", 0, 5, 15);
        chain("o12345/0");
        pieces("the first", 0, 1, 1, 1, 4, 14);
        chain("o12345/4");
        pieces("the last", 0, 4, 10, 4, 1, 5);
        chain("o12345/2");
        pieces("amidst", 0, 2, 3, 2, 1, 3, 3, 2, 9);
        chain("o12345/1,2");
        pieces("side by side", 0, 1, 1, 1, 1, 2, 2, 1, 3, 3, 2, 9);
        chain("o12345/0,4");
        pieces("both ends stay apart", 0, 1, 1, 1, 3, 9, 4, 1, 5);
        chain("o12345/0,1,2,3,4");
        pieces("all", 0, 1, 1, 1, 1, 2, 2, 1, 3, 3, 1, 4, 4, 1, 5);
        chain("o7/0");
        pieces("one link", 0, 1, 7);
        chain("o12345678912/1,3,5,7,9");
        pieces("the most there can be", 0, 1, 1, 1, 1, 2, 2, 1, 3, 3, 1, 4, 4, 1, 5, 5, 1, 6, 6, 1, 7, 7, 1, 8, 8, 1, 9, 9, 1, 1, 10, 1, 2);
        chain("o" + NINES);
        pieces("the most worth", 0, 24, 216);

        says("A ROPE: the longest rows of LINKS without a NOTCH that is CUT between.");
        chain("p12345");
        pieces("none cut", 0, 5, 15);
        chain("p12345/0");
        pieces("behind the first", 0, 1, 1, 1, 4, 14);
        chain("p12345/3");
        pieces("ahead of the last", 0, 4, 10, 4, 1, 5);
        chain("p12345/1,2");
        pieces("side by side", 0, 2, 3, 2, 1, 3, 3, 2, 9);
        chain("p12345/0,1,2,3");
        pieces("all", 0, 1, 1, 1, 1, 2, 2, 1, 3, 3, 1, 4, 4, 1, 5);
        chain("p7");
        pieces("one link", 0, 1, 7);
        chain("p123456/0,1,2,3,4");
        pieces("the most there can be", 0, 1, 1, 1, 1, 2, 2, 1, 3, 3, 1, 4, 4, 1, 5, 5, 1, 6);
    }

    private static void ringPieces() {
        says("A RING: likewise, the LINK behind the last being the first one");
        chain("r12345/2");
        pieces("one goes round the end", 2, 1, 3, 3, 4, 12);
        chain("r12345/1,3");
        pieces("round the end", 1, 1, 2, 2, 1, 3, 3, 1, 4, 4, 2, 6);
        chain("r12345/1,2");
        pieces("round the end, side by side", 1, 1, 2, 2, 1, 3, 3, 3, 10);
        chain("r12345/0,4");
        pieces("both at the end", 0, 1, 1, 1, 3, 9, 4, 1, 5);

        says("with none CUT it is one PIECE");
        for (int links : new int[] {1, 2, 24}) {
            chain("r" + NINES.substring(0, links));
            pieces(links + " links", 0, links, 9 * links);
        }

        says("that which goes round the end has its first LINK near the end");
        chain("r12345/3");
        pieces("from the last on", 3, 1, 4, 4, 4, 11);
        chain("r12345/4");
        pieces("the last is cut: from the first on", 0, 4, 10, 4, 1, 5);
        chain("r12345/0");
        pieces("the first is cut: from the second on", 0, 1, 1, 1, 4, 14);
        chain("r12345/1");
        pieces("the second is cut: from the third on", 1, 1, 2, 2, 4, 13);
        chain("r12/1");
        pieces("two links, the last", 0, 1, 1, 1, 1, 2);
        chain("r12/0");
        pieces("two links, the first", 0, 1, 1, 1, 1, 2);
        chain("r12/0,1");
        pieces("two links, both", 0, 1, 1, 1, 1, 2);
        chain("r7/0");
        pieces("one link", 0, 1, 7);
        chain("r123/0,1,2");
        pieces("all", 0, 1, 1, 1, 1, 2, 2, 1, 3);
        chain("r1234567891/1,3,5,7,9");
        pieces("the most there can be", 0, 1, 1, 1, 1, 2, 2, 1, 3, 3, 1, 4, 4, 1, 5, 5, 1, 6, 6, 1, 7, 7, 1, 8, 8, 1, 9, 9, 1, 1);
        chain("r12345678912/1,3,5,7,9");
        pieces("the most there can be, one round the end", 1, 1, 2, 2, 1, 3, 3, 1, 4, 4, 1, 5, 5, 1, 6, 6, 1, 7, 7, 1, 8, 8, 1, 9, 9, 1, 1, 10, 2, 3);
        chain("r" + ONES + "/1,22");
        pieces("24 links", 1, 1, 1, 2, 20, 20, 22, 1, 1, 23, 2, 2);
    }

    private static void barPieces() {
        says("A BAR: likewise, and by each LINK whose NOTCH is CUT its WORTH counts 1 less (1 at least)");
        chain("b11/0");
        pieces("of 1: 1", 0, 1, 1, 1, 1, 1);
        chain("b21/0");
        pieces("of 2: 1", 0, 1, 1, 1, 1, 1);
        chain("b31/0");
        pieces("of 3: 2", 0, 1, 2, 1, 1, 1);
        chain("b99/0");
        pieces("of 9: 8, and the last is whole", 0, 1, 8, 1, 1, 9);
        chain("b9219/1,2");
        pieces("of 2, of 1", 0, 2, 10, 2, 1, 1, 3, 1, 9);
        chain("b999999/0,1,2,3,4");
        pieces("each", 0, 1, 8, 1, 1, 8, 2, 1, 8, 3, 1, 8, 4, 1, 8, 5, 1, 9);
        due("its worth stays", x.worth(0, 9), 9);
        due("mend(0)", x.mend(0), 4);
        pieces("the first again", 0, 2, 17, 2, 1, 8, 3, 1, 8, 4, 1, 8, 5, 1, 9);
        chain("b999");
        pieces("none cut", 0, 3, 27);
        chain("p99/0");
        pieces("a rope loses nothing", 0, 1, 9, 1, 1, 9);
    }

    private static void cuts() {
        says("CUT are 5 NOTCHES at the most (none at first)");
        due("count(2) at first", x.count(2), 0);
        for (int kind = 0; kind < 4; kind++) {
            chain("orpb".charAt(kind) + "1111111");
            due("count(2)", x.count(2), 0);
            cutAll(5, 0, 3, 1, 4);
            due("a sixth", x.cut(2), FULL);
            due("count(2)", x.count(2), 5);
            due("mend(0)", x.mend(0), 4);
            due("a fifth", x.cut(2), 5);
        }

        says("A NOTCH is CUT: how many are. BAD; NOT: it is already; FULL: 5.");
        chain("o1111111");
        due("the first", x.cut(0), 1);
        due("the last", x.cut(6), 2);
        due("the first again", x.cut(0), NOT);
        due("the last again", x.cut(6), NOT);
        due("one below the first", x.cut(-1), BAD);
        due("one behind the last", x.cut(7), BAD);
        cutAll();
        due("cut(3)", x.cut(3), 3);
        due("cut(2)", x.cut(2), 4);
        due("cut(4)", x.cut(4), 5);
        for (int v = 0; v < 7; v++) due("5 are: cut(" + v + ")", x.cut(v), v == 1 || v == 5 ? FULL : NOT);
        outside("5 are: cut", 0, 6, BAD, v -> x.cut(v));

        says("A NOTCH is not CUT any more: how many are. BAD; NOT: it is not CUT.");
        chain("o1111111/0,2,3,4,6");
        outside("mend", 0, 6, BAD, v -> x.mend(v));
        due("not cut", x.mend(1), NOT);
        due("not cut", x.mend(5), NOT);
        due("the first", x.mend(0), 4);
        due("the last", x.mend(6), 3);
        due("the first again", x.mend(0), NOT);
        due("the last again", x.mend(6), NOT);
        due("mend(3)", x.mend(3), 2);
        due("notch(0)", x.notch(0), 2);
        due("notch(1)", x.notch(1), 4);
        due("mend(2)", x.mend(2), 1);
        due("mend(4)", x.mend(4), 0);
        due("mend(4) again", x.mend(4), NOT);
        chain("p1");
        due("no notch at all", x.mend(0), BAD);
    }

    private static void tapes() {
        says("The n lowest bytes (1 .. 8) of w, of these the highest first, come behind THE TAPE: how many it has.");
        long w = 0x6F31323334353637L;
        due("type(w, 8)", x.type(w, 8), 8);
        due("all eight", x.chain(), 7);
        for (int i = 0; i < 7; i++) due("worth of link " + i, x.worth(i, 1), i + 1);
        due("type(.., 1)", x.type(0x6FL, 1), 1);
        due("type(w, 1)", x.type(w, 1), 2);
        due("the lowest byte", x.chain(), 1);
        due("worth of it", x.worth(0, 1), 7);
        due("type(.., 1)", x.type(0x6FL, 1), 1);
        due("type(w, 7)", x.type(w, 7), 8);
        due("the seven lowest", x.chain(), 7);
        outside("n", 1, 8, BAD, v -> x.type(0x2020202020202020L, v));
        due("bytes above are not looked at", x.type(0xFF00000000006F39L, 2), 2);
        due("chain()", x.chain(), 1);

        says("BAD: n, a byte not 32 .. 126");
        for (int b = 0; b < 256; b++) {
            due("byte " + b, x.type(b, 1), b < 32 || b > 126 ? BAD : 1);
            if (b >= 32 && b <= 126) x.chain();
        }
        for (int at = 0; at < 8; at++) {
            for (long b : new long[] {0, 31, 127, 128, 255}) {
                long v = 0x2020202020202020L & ~(255L << 8 * at) | b << 8 * at;
                due("byte " + b + " at " + at, x.type(v, 8), BAD);
                if (at < 7) due("byte " + b + " at " + at + ", the highest taken", x.type(v, at + 1), BAD);
                if (at > 0 && b == 255) {
                    due("byte " + b + " at " + at + ", not taken", x.type(v, at), at);
                    x.chain();
                }
            }
        }
        due("the tape is empty still", x.chain(), -20);

        says("FULL: 60");
        for (int n = 1; n <= 8; n++) {
            renew();
            int has = 0;
            while (has < 60 - n) has = x.type(0x2020202020202020L, Math.min(8, 60 - n - has));
            due("60 less n", has, 60 - n);
            if (n < 8) due("one too many", x.type(0x2020202020202020L, n + 1), FULL);
            due("up to 60", x.type(0x2020202020202020L, n), 60);
            due("one more", x.type(' ', 1), FULL);
            due("eight more", x.type(0x2020202020202020L, 8), FULL);
            due("60 blanks", x.chain(), -80);
        }
        type("                         o" + ONES + "/23,0,5,19");
        due("text of 60 bytes", x.type(' ', 1), FULL);
        due("is read", x.chain(), 24);
        due("notch(3)", x.notch(3), 23);
    }

    private static void texts() {
        says("THE TAPE, which is empty then, is a CHAIN: how many LINKS. A FAULT (all stays).");
        text("", -20);
        type("o12");
        due("chain()", x.chain(), 2);
        due("the tape is empty", x.chain(), -20);
        type("o1x");
        due("a fault", x.chain(), -22);
        due("the tape is empty", x.chain(), -20);
        due("links stay", x.count(0), 2);

        says("A CHAIN is a TEXT: o r p b (KINDS in this order)");
        for (int kind = 0; kind < 4; kind++) {
            text("orpb".charAt(kind) + "1", 1);
            due("count(5)", x.count(5), kind);
        }
        for (char c = 33; c <= 126; c++) {
            if ("orpb".indexOf(c) < 0) text(c + "1", -20);
            if (c < '1' || c > '9') text("o" + c, -21);
        }

        says("1 to 24 digits 1 .. 9 (WORTHS)");
        renew();
        text("o", -21);
        text("o/0", -21);
        text("o1", 1);
        text("o" + ONES, 24);
        text("o" + ONES + "1", -45);
        text("o" + ONES + " 1", -46);
        text("o" + ONES + "/0", 24);
        text("o9", 1);
        due("worth", x.worth(0, 9), 9);
        text("o0", -21);
        text("o:", -21);
        text("o10", -22);
        text("o901", -22);
        text("o1234567890", -30);

        says("then perhaps / and 1 to 5 numbers with , between");
        text("o111111", 6);
        text("o111111/", -28);
        text("o111111/,", -28);
        text("o111111/0", 6);
        text("o111111/0,1,2,3,4", 6);
        due("count(2)", x.count(2), 5);
        text("o111111/0,1,2,3,4,", -37);
        text("o111111/0,1,2,3,4,5", -37);
        text("o111111/0,", -30);
        text("o111111/0,,1", -30);
        text("o111111/0/1", -29);
        text("o111111//0", -28);
        text("o111111,0", -27);

        says("NOTCHES that are CUT, of those there are, none twice");
        text("o111/2", 3);
        text("o111/3", -25);
        text("r111/2", 3);
        text("r111/3", -25);
        text("p111/1", 3);
        text("p111/2", -25);
        text("b111/1", 3);
        text("b111/2", -25);
        text("o1/0", 1);
        text("p1/0", -23);
        text("b1/0", -23);
        text("o" + ONES + "/23", 24);
        text("o" + ONES + "/24", -46);
        text("p" + ONES + "/22", 24);
        text("p" + ONES + "/23", -46);
        text("o111/0,0", -27);
        text("o111/2,1,0", 3);
        text("o111/2,1,2", -29);
        text("o111/-1", -25);
        text("o111/2147483648", -25);
        text("o111/4294967296", -25);
        text("o111/4294967297", -25);
        text("o111/18446744073709551616", -25);

        says("in place of THE CHAIN");
        text("b345/1", 3);
        text("r12", 2);
        due("links", x.count(0), 2);
        due("nothing is cut", x.count(2), 0);
        due("kind", x.count(5), 1);
        due("worth", x.count(4), 3);
    }

    private static void faults() {
        says("-20 less the place of the first byte (behind blanks) that can't stand there");
        text("x", -20);
        text(" x", -21);
        text("   x", -23);
        text("ox", -21);
        text("o  x", -23);
        text("o1x", -22);
        text("o1  x", -24);
        text("o1/x", -23);
        text("o1/ x", -24);
        text("o1/0x", -24);
        text("o1/0  x", -26);
        text("o11/0,x", -26);
        text("o11/0, x", -27);
        text("o11/0,1x", -27);
        text("x" + ONES, -20);
        type("                                                           ");
        due("type(x), the 60th", x.type('x', 1), 60);
        due("the last place", x.chain(), -79);

        says("(the end: how many bytes there are)");
        text("", -20);
        text(" ", -21);
        text("   ", -23);
        text("o", -21);
        text("o ", -22);
        text("o1/", -23);
        text("o1/ ", -24);
        text("o11/0,", -26);
        text("o11/0,  ", -28);
        type("                                                           ");
        due("type(o), the 60th", x.type('o', 1), 60);
        due("the end", x.chain(), -80);

        says("bytes 32 count for nothing, but end a number");
        text("  o  1  2  /  1  ,  0  ", 2);
        due("count(2)", x.count(2), 2);
        text("o1111111111111/1 2", -37);
        text("o1111111111111/12", 13);
        text("o1111111111111/1 ,2", 13);
        text("o11/0 ", 2);

        says("of a number that may not be its first byte");
        text("o11/2", -24);
        text("o11/12", -24);
        text("o11/ 12", -25);
        text("o11/0,12", -26);
        text("o11/0,  12x", -28);
        text("o11/1,1", -26);
        text("o11/1,  1", -28);
        text("o11/99999999999999999999999999999999999999999999999999999999", -24);
    }

    private static void looks() {
        says("How many: 0 LINKS, 1 NOTCHES, 2 CUTS, 3 PIECES, 4 WORTH of all PIECES, 5 the KIND. BAD.");
        chain("b9351/0,1");
        int[] want = {4, 3, 2, 3, 16, 3};
        for (int what = 0; what <= 5; what++) due("count(" + what + ")", x.count(what), want[what]);
        outside("count", 0, 5, BAD, v -> x.count(v));

        says("Of the i-th PIECE: 0 its first LINK, 1 how many LINKS, 2 WORTH. BAD.");
        chain("p234/1");
        int[] threes = {0, 2, 5, 2, 1, 4};
        for (int i = 0; i < 6; i++) due("piece(" + i / 3 + ", " + i % 3 + ")", x.piece(i / 3, i % 3), threes[i]);
        for (int what = 0; what < 3; what++) {
            int w = what;
            outside("piece(.., " + w + ")", 0, 1, BAD, v -> x.piece(v, w));
        }
        for (int i = 0; i < 2; i++) {
            int p = i;
            outside("piece(" + p + ", ..)", 0, 2, BAD, v -> x.piece(p, v));
        }
        due("neither", x.piece(2, 3), BAD);
        chain("o1");
        due("of one piece", x.piece(0, 1), 1);
        outside("piece of one", 0, 0, BAD, v -> x.piece(v, 0));
        chain("o11111111111/1,3,5,7,9");
        due("the eleventh", x.piece(10, 0), 10);
        outside("piece of eleven", 0, 10, BAD, v -> x.piece(v, 0));

        says("The i-th NOTCH that is CUT, rising. BAD.");
        chain("o1111111");
        outside("none", 0, -1, BAD, v -> x.notch(v));
        due("none: notch(0)", x.notch(0), BAD);
        int[] notches = {6, 0, 3, 5, 1}, rising = {0, 1, 3, 5, 6};
        cutAll(notches);
        for (int i = 0; i < 5; i++) due("notch(" + i + ")", x.notch(i), rising[i]);
        outside("five", 0, 4, BAD, v -> x.notch(v));
        x.mend(3);
        due("notch(2)", x.notch(2), 5);
        due("notch(3)", x.notch(3), 6);
        outside("four", 0, 3, BAD, v -> x.notch(v));
    }

    // ---- 2 days

    private static void rates() {
        says("RATE is 1 at first (1 .. 9)");
        due("rate(0, 9)", x.rate(0, 9), 1);
        due("rate(0, 1)", x.rate(0, 1), 9);
        outside("rate(0, ..)", 1, 9, BAD, v -> x.rate(0, v));
        due("due(1)", x.due(1), 1);

        says("0 RATE, 1 OFF, 2 DOUBLE (sets 0 .. 127) becomes v: what it was. BAD.");
        for (int what = 1; what <= 2; what++) {
            int w = what;
            due("at first none", x.rate(w, 127), 0);
            due("rate(" + w + ", 0)", x.rate(w, 0), 127);
            due("rate(" + w + ", 5)", x.rate(w, 5), 0);
            outside("rate(" + w + ", ..)", 0, 127, BAD, v -> x.rate(w, v));
            due("rate(" + w + ", 0)", x.rate(w, 0), 5);
        }
        outside("rate(.., 1)", 0, 2, BAD, v -> x.rate(v, 1));
        due("rate(0, 1)", x.rate(0, 1), 1);

        says("DAYS 1 .. 60");
        due("due(1)", x.due(1), 1);
        due("due(60)", x.due(60), 60);
        outside("due", 1, 60, BAD, v -> x.due(v));
        x.rate(1, 127);
        due("no more than 60 days", x.far(), 60);
        due("kept", x.kept(), 60);
    }

    private static void week() {
        says("Of each seven DAYS (0 .. 6: DAY less 1, the rest by 7) some are OFF (a set; none at first): nothing comes on them");
        for (int d = 0; d < 7; d++) {
            renew();
            x.rate(1, 1 << d);
            int ahead = 0;
            for (int day = 1; day <= 60; day++) {
                int comes = x.due(day) - ahead;
                ahead += comes;
                due("off " + d + ": day " + day, comes, (day - 1) % 7 == d ? 0 : 1);
            }
        }
        renew();
        x.rate(1, 127);
        due("all off: due(60)", x.due(60), 0);

        says("some are DOUBLE (a set; none at first; OFF counts first): twice RATE; on others RATE");
        set(9, 0, 127);
        due("all double: due(1)", x.due(1), 18);
        due("all double: due(60)", x.due(60), 1080);
        set(9, 127, 127);
        due("all off and double", x.due(60), 0);
        set(3, 1, 3);
        due("off counts first", x.due(1), 0);
        due("double", x.due(2), 6);
        due("neither", x.due(3), 9);
        due("seven days", x.due(7), 21);
        due("off again", x.due(8), 21);
        due("double again", x.due(9), 27);
        set(3, 0, 64);
        due("six days", x.due(6), 18);
        due("the seventh", x.due(7), 24);
        due("the eighth", x.due(8), 27);

        says("Sets are bits.");
        x.rate(1, 65);
        due("days 1 and 7 are off: due(1)", x.due(1), 0);
        due("due(2)", x.due(2), 1);
        due("due(6)", x.due(6), 5);
        due("due(7)", x.due(7), 5);
        x.rate(1, 0);
        chain("o11111111111/1,3,5,7,9");
        due("the first piece", x.handed(1, 1), 1);
        due("all eleven", x.handed(11, 11), 2047);
        chain("o22222222221/1,3,5,7,9");
        due("the last piece, which is the only 1", x.handed(1, 1), 1024);
        due("the first piece of 2", x.handed(2, 2), 1);
        due("both", x.handed(3, 3), 1025);

        says("DUE. BAD.");
        due("due(1)", x.due(1), 1);
        due("due(60)", x.due(60), 60);
        set(2, 2, 1);
        due("double, off, then 2", x.due(3), 6);
        outside("due", 1, 60, BAD, v -> x.due(v));

        says("DUE on a DAY is all that comes from DAY 1 to it.");
        set(9, 0, 0);
        for (int day = 1; day <= 60; day++) due("due(" + day + ")", x.due(day), 9 * day);
    }

    private static void paid() {
        says("A sum is PAID, if some PIECES (or none) have just so much WORTH together.");
        chain("p235/0,1");
        boolean[] can = new boolean[12];
        for (int s : new int[] {0, 2, 3, 5, 7, 8, 10}) can[s] = true;
        for (int s = 0; s < 12; s++) due("pays(" + s + ")", x.pays(s), can[s] ? 1 : 0);
        chain("o" + NINES);
        due("none", x.pays(0), 1);
        due("all", x.pays(216), 1);
        due("one more", x.pays(217), 0);
        due("one less", x.pays(215), 0);
        chain("o" + NINES + "/0");
        due("all", x.pays(216), 1);
        due("each piece once", x.pays(18), 0);

        says("Whether a sum (0 .. 999) is PAID (1, 0). BAD.");
        for (int s = 0; s <= 999; s++) {
            if (s % 250 == 0) {
                renew();
                chain("p" + NINES + "/0,7");
            }
            due("9, 63, 144: pays(" + s + ")", x.pays(s), s == 0 || s == 9 || s == 63 || s == 72 || s == 144 || s == 153 || s == 207 || s == 216 ? 1 : 0);
        }
        chain("o99999999");
        for (int s = 1; s <= 216; s++) due("72, what was paid is no more: pays(" + s + ")", x.pays(s), s == 72 ? 1 : 0);
        renew();
        due("pays(0)", x.pays(0), 1);
        due("pays(1)", x.pays(1), 1);
        due("pays(2)", x.pays(2), 0);
        due("pays(999)", x.pays(999), 0);
        outside("pays", 0, 999, BAD, v -> x.pays(v));
    }

    private static void far() {
        says("FAR: on how many DAYS, one behind the other from DAY 1 on, DUE can be PAID (all PIECES that lie there may be given back for others).");
        chain("o2");
        due("not on day 1: none", x.far(), 0);
        chain("o1");
        due("one", x.far(), 1);
        chain("p134/0,1");
        due("day 2 can't be, day 3 could", x.far(), 1);
        chain("p124/0,1");
        due("1 goes back for 2", x.far(), 7);
        chain(TO_59);
        due("all but day 60", x.far(), 59);
        chain(TO_60);
        due("60 days", x.far(), 60);
        chain(TO_63);
        due("more than 60", x.far(), 60);
        set(9, 0, 127);
        due("18 can be", x.far(), 3);
        chain("o1");
        due("18 can't be", x.far(), 0);
        set(9, 127, 0);
        due("nothing is due: none of the pieces pay it", x.far(), 60);
        set(9, 126, 0);
        due("9 can't be on day 1", x.far(), 0);
        set(9, 63, 0);
        due("9 can't be on day 7", x.far(), 6);
        chain("o99999999/1,3,5,7");
        set(9, 119, 0);
        due("72 on day 59", x.far(), 59);
    }

    /** Calls that answer a term: as it is now, whatever was asked ahead. */
    private static void terms() {
        says("FAR.");
        due("one link", x.far(), 1);
        chain("o1111111/2");
        due("2 1 4", x.far(), 7);
        x.mend(2);
        due("7", x.far(), 0);
        x.rate(0, 7);
        due("7 by 7", x.far(), 1);

        says("KEPT.");
        due("one link", x.kept(), 1);
        chain("p1123/0,1,2");
        due("1, 1 1, no more", x.kept(), 2);
        x.mend(1);
        due("1 3 3", x.kept(), 1);
        x.rate(0, 3);
        due("3, 3 3, no more", x.kept(), 2);
        due("FAR is as much", x.far(), 2);
    }

    private static void kept() {
        says("KEPT: on how many at most, if nothing is given back (what lies there on a DAY lies there on all behind it).");
        chain("o2");
        due("not on day 1: none", x.kept(), 0);
        chain("p12/0");
        due("1 would go back for 2", x.kept(), 1);
        chain("p112/0,1");
        due("1, 1; 2 can't lie with them on day 3", x.kept(), 2);
        chain("p1111/0,1,2");
        due("one more each day", x.kept(), 4);
        chain("p11211/0,1,2,3");
        set(2, 0, 0);
        due("2, then 1 1, then 1 1: at most", x.kept(), 3);
        chain("p32142/0,1,2,3");
        set(3, 0, 0);
        due("3 and 2 1, and no 3 is left of 4 2", x.kept(), 2);
        chain("p11122/0,1,2,3");
        due("not 1 1 1, which leaves 2 2: 1 2, then 1 2", x.kept(), 2);
        set(1, 0, 0);
        chain("o11111111111/1,3,5,7,9");
        due("eleven of 1", x.kept(), 11);
        set(1, 119, 0);
        due("days 4, 11 and so on: all", x.kept(), 60);
        chain("o111111111/1,3,5,7");
        due("nine: all", x.kept(), 60);
        chain("o11111111/1,3,5,7");
        due("eight: not day 60", x.kept(), 59);
        set(1, 126, 0);
        due("eight: days 1 to 50, not 57", x.kept(), 56);
        set(1, 127, 0);
        due("nothing is due", x.kept(), 60);
        set(1, 0, 0);
        chain("o1");
        due("day 2 is more than all", x.kept(), 1);
        set(9, 0, 0);
        due("day 1 is more than all", x.kept(), 0);
        set(9, 1, 0);
        due("day 2 is more than all, day 1 is off", x.kept(), 1);
        chain("o" + NINES + "/1,3,5,7,23");
        set(9, 0, 0);
        due("nine of 9, then 135", x.kept(), 9);
    }

    private static void two() {
        says("TWO: on how many both DUE and as many times a second RATE as there are DAYS can be PAID by PIECES that are not the same.");
        due("one piece: not both", x.two(1), 0);
        chain("p11/0");
        due("1 and 1", x.two(1), 1);
        chain("p1122/0,1,2");
        due("1 and 1, 2 and 2, 1 2 and 1 2, then no more", x.two(1), 3);
        chain("p112/0,1");
        due("1 and 1, then 2 and 1 1, then no more", x.two(1), 2);
        chain("p1133/0,1,2");
        due("1 and 1, not 2 and 2, though 3 and 3 could be", x.two(1), 1);
        chain("p111112/0,1,2,3,4");
        due("1 and 1, 2 and 2, 3 and 3", x.two(1), 3);
        chain("p133/0,1");
        due("not day 1, day 3 could be", x.two(1), 0);
        x.rate(1, 127);
        chain(TO_59);
        due("nothing and 59", x.two(1), 59);
        chain(TO_60);
        due("nothing and 60", x.two(1), 60);
        chain(TO_63);
        due("nothing and 63", x.two(1), 60);
        due("by 3: 21 days", x.two(3), 21);
        due("by 9: 7 days", x.two(9), 7);
        x.rate(1, 0);
        due("1 and 9: both want the 1", x.two(9), 0);
        due("1 and 2, 2 and 4, not 3 and 6", x.two(2), 2);
        chain("o" + NINES + "/0,11,23");
        set(9, 0, 0);
        due("9 and 9, then not", x.two(9), 1);
        set(9, 0, 127);
        due("18 and 9, then not", x.two(9), 1);
        chain("o1");
        due("more than all", x.two(9), 0);

        says("TWO, by a second RATE (1 .. 9). BAD.");
        chain("p19/0");
        due("two(9)", x.two(9), 1);
        due("two(1)", x.two(1), 0);
        outside("two", 1, 9, BAD, v -> x.two(v));
        x.rate(1, 127);
        outside("two, nothing being due", 1, 9, BAD, v -> x.two(v));
    }

    private static void most() {
        says("MOST by k CUTS (0 .. 4)");
        chain("p1248889");
        int[] far = {0, 1, 3, 7, 15};
        for (int k = 0; k <= 4; k++) due("most(" + k + ", -1)", x.most(k, -1), far[k]);
        for (int i = -1; i <= 3; i++) {
            int at = i;
            outside("most(.., " + at + ")", 0, 4, BAD, v -> x.most(v, at));
        }

        says("of all sets of k NOTCHES, CUT in THE CHAIN with no others CUT, that by which FAR is most");
        chain("o1111111/0,1,3,4,6");
        due("by one, the third", x.most(1, -1), 7);
        due("most(1, 0)", x.most(1, 0), 2);
        due("by none", x.most(0, -1), 0);
        due("cuts stay", x.count(2), 5);
        due("notch(2)", x.notch(2), 3);

        x.image();
        due("kind(2)", x.kind(2), 0);
        due("of a rope", x.most(1, -1), 1);
        due("restore()", x.restore(), 1);
        due("of the open chain again", x.most(1, -1), 7);
        due("link(1)", x.link(1), 8);
        due("of eight links: 2 1 5", x.most(1, -1), 3);
        due("worth(7, 9)", x.worth(7, 9), 1);
        due("of nine more", x.most(1, -1), 3);
        due("worth(0, 9)", x.worth(0, 9), 1);
        due("10 1 13 or so", x.most(1, -1), 1);
        due("rate(0, 9)", x.rate(0, 9), 1);
        due("9 24 or so", x.most(1, -1), 1);
        due("the first of all", x.most(1, 0), 0);
        chain("o999");
        due("of three of 9", x.most(1, -1), 3);
        due("9 18, or three of 9: the first", x.most(1, 0), 0);

        says("of like ones the first as a row, rising");
        chain("o" + NINES);
        for (int k = 1; k <= 4; k++) {
            due("by " + k, x.most(k, -1), 0);
            for (int i = 0; i < k; i++) due("most(" + k + ", " + i + ")", x.most(k, i), i);
        }
        chain("p1111");
        due("1 3 or 2 2 or 3 1", x.most(1, -1), 1);
        due("the first", x.most(1, 0), 0);
        chain("p2112");
        due("2 1 3 or 3 1 2", x.most(2, -1), 6);
        due("the first", x.most(2, 0), 0);
        due("the first", x.most(2, 1), 1);
        chain("p9991");
        due("the last of all", x.most(1, -1), 1);
        due("the last of all", x.most(1, 0), 2);

        says("none, if there are fewer NOTCHES");
        for (int kind = 0; kind < 4; kind++) {
            for (int k = 1; k <= 4; k++) {
                int links = kind < 2 ? k : k + 1;
                chain("orpb".charAt(kind) + ONES.substring(0, links));
                due("just so many: far", x.most(k, -1), links);
                for (int i = 0; i < k; i++) due("just so many: all", x.most(k, i), i);
                if (k < 4) due("one too many: far", x.most(k + 1, -1), NONE);
                if (k < 4) due("one too many: the first", x.most(k + 1, 0), NONE);
                due("five", x.most(5, -1), BAD);
            }
        }
        chain("p1");
        due("no notch: by none", x.most(0, -1), 1);
        due("no notch: by one", x.most(1, -1), NONE);

        says("MOST by k CUTS: FAR (-1), the i-th NOTCH (0 .. 3). BAD; NONE: there are not so many NOTCHES, no i-th.");
        chain("o11111");
        for (int k = 0; k <= 4; k++) {
            int cuts = k;
            due("FAR", x.most(k, -1), k == 0 ? 0 : 5);
            for (int i = 0; i <= 3; i++) due("most(" + k + ", " + i + ")", x.most(k, i) < 0 ? x.most(k, i) : 0, i < k ? 0 : NONE);
            outside("most(" + k + ", ..)", -1, 3, BAD, v -> x.most(cuts, v));
        }
        chain("o1");
        for (int i = -1; i <= 3; i++) due("not so many: most(2, " + i + ")", x.most(2, i), NONE);
        outside("not so many: most(2, ..)", -1, 3, BAD, v -> x.most(2, v));
        chain(TO_63);
        x.rate(1, 127);
        due("60 days by none", x.most(0, -1), 60);
        due("60 days by four", x.most(4, -1), 60);
        due("the first row", x.most(4, 3), 3);
    }

    private static void fewest() {
        says("FEWEST for n DAYS (0 .. 60): the fewest CUTS (0 .. 4) by which FAR may be n or more.");
        chain("p1248889");
        due("fewest(0)", x.fewest(0), 0);
        int[] want = {1, 2, 2, 3, 3, 3, 3, 4, 4, 4, 4, 4, 4, 4, 4};
        for (int n = 1; n <= 15; n++) due("fewest(" + n + ")", x.fewest(n), want[n - 1]);
        due("fewest(16)", x.fewest(16), NONE);
        due("fewest(60)", x.fewest(60), NONE);
        outside("fewest", 0, 60, BAD, v -> x.fewest(v));
        chain("o9");
        due("no day", x.fewest(0), 0);
        due("one day", x.fewest(1), NONE);
        chain("o777391923453");
        due("by 3 cuts 27 days", x.fewest(27), 3);
        due("one more by 4", x.fewest(28), 4);
        due("60 by 4: 7, 14, 3, 9, 1, 9, 2, 15", x.fewest(60), 4);
        due("more than 60", x.fewest(61), BAD);
        x.worth(11, 2);
        due("59 by 3: 21, 3, 9, 1, 18, 5, 2", x.fewest(59), 3);
        due("60 not", x.fewest(60), NONE);
        x.rate(1, 127);
        due("nothing is due", x.fewest(60), 0);

        says("FEWEST for n DAYS. BAD; NONE: not by 4.");
        chain(TO_63);
        due("60 by 5", x.far(), 60);
        due("31 by 4", x.most(4, -1) <= 31 ? 1 : 0, 1);
        due("32 not by 4", x.fewest(32), NONE);
        due("fewest(61)", x.fewest(61), BAD);
        due("fewest(-1)", x.fewest(-1), BAD);
        chain("p119");
        due("as many cuts as notches", x.fewest(2), 2);
        due("there is no third", x.fewest(3), NONE);
        chain("p12");
        due("there is no second cut", x.fewest(4), NONE);
        due("by the only one", x.fewest(3), 1);
    }

    // ---- 3 counters

    private static void handed() {
        says("HANDED in n DAYS (1 .. FAR)");
        chain("p124/0,1");
        due("handed(1, 0)", x.handed(1, 0), 1);
        due("handed(7, 0): FAR", x.handed(7, 0), 11);
        due("handed(8, 0)", x.handed(8, 0), NOT);
        due("handed(60, 0)", x.handed(60, 0), NOT);
        outside("handed(.., 0)", 1, 60, BAD, v -> x.handed(v, 0));
        chain("o2");
        due("FAR is 0", x.handed(1, 0), NOT);
        chain(TO_59);
        due("handed(59, 59)", x.handed(59, 59), 63);
        due("handed(60, 60)", x.handed(60, 60), NOT);
        chain(TO_60);
        due("handed(60, 60)", x.handed(60, 60), 63);
        due("handed(61, 60)", x.handed(61, 60), BAD);

        says("on each DAY a set of PIECES lies on the counter whose WORTH is DUE");
        chain("p1248889/0,1,2,3,5");
        set(2, 4, 34);
        int far = x.far();
        due("FAR: 40 on day 18", far, 18);
        for (int n = 1; n <= far; n++) {
            for (int day = 1; day <= n; day++) {
                int worth = 0, set = x.handed(n, day);
                for (int i = 0; i < 6; i++) if ((set >> i & 1) != 0) worth += new int[] {1, 2, 4, 8, 16, 9}[i];
                due("worth of handed(" + n + ", " + day + ")", set < 64 ? worth : -1, x.due(day));
                calls++;
            }
        }

        says("from each DAY to the next (and from none to DAY 1) those are handed that come or go");
        chain("p121/0,1");
        due("to day 1: one comes", x.handed(1, 0), 1);
        due("to day 2: one more comes", x.handed(2, 0), 2);
        x.rate(0, 2);
        due("from none: 2 alone", x.handed(1, 0), 1);
        due("not 1 1", x.handed(1, 1), 2);
        x.rate(0, 1);
        chain("p12/0");
        due("to day 2: one goes, one comes", x.handed(2, 0), 3);
        due("to day 3: one comes", x.handed(3, 0), 4);
        chain("p111/0,1");
        x.rate(0, 3);
        due("three to day 1", x.handed(1, 0), 3);
        x.rate(1, 1);
        due("none to day 1", x.handed(1, 0), 0);
        due("three to day 2", x.handed(2, 0), 3);
        x.rate(1, 126);
        due("nothing is handed on a day off", x.handed(7, 0), 3);

        chain("o" + NINES + "/0,23");
        set(9, 0, 0);
        due("9, then 9 9", x.handed(2, 0), 2);
        due("of the most worth", x.handed(2, 2), 5);
        due("27 can't be", x.handed(3, 0), NOT);

        says("rows of sets by which the fewest are handed in all; of these the first");
        chain("p1111/0,1,2");
        int[] ones = {1, 3, 7, 15};
        for (int d = 1; d <= 4; d++) due("like pieces: day " + d, x.handed(4, d), ones[d - 1]);
        chain("p2112/0,1,2");
        set(2, 0, 0);
        due("2, 2 2", x.handed(2, 0), 2);
        due("the first: piece 0", x.handed(2, 1), 1);
        due("both", x.handed(2, 2), 9);
        due("1 1 last", x.handed(3, 0), 4);
        due("all", x.handed(3, 3), 15);
        // 1, then 2 for it, then 1 with it; or 1, then 1 1, then one more: both three or more; the last is less
        set(1, 0, 0);
        chain("p2111/0,1,2");
        due("1, 1 1, 1 1 1", x.handed(3, 0), 3);
        due("day 2 by the fewest in all", x.handed(3, 2), 6);
        due("day 3: 1 1 1 or 2 1", x.handed(3, 3), 14);
        due("day 4: 2 1 1 1 is 5", x.handed(5, 5), 15);

        says("HANDED in n DAYS: how many (0), else the set on a DAY (1 .. n) by the first row. BAD; NOT: FAR is less.");
        chain("p124/0,1");
        for (int d = 1; d <= 7; d++) due("handed(7, " + d + ")", x.handed(7, d), d);
        for (int n = 1; n <= 7; n++) {
            int days = n;
            due("handed(" + n + ", " + n + ")", x.handed(n, n), n);
            outside("handed(" + n + ", ..)", 0, n, BAD, v -> x.handed(days, v));
        }
        due("NOT", x.handed(8, 8), NOT);
        outside("handed(8, ..)", 0, 8, BAD, v -> x.handed(8, v));
        due("handed(0, 0)", x.handed(0, 0), BAD);
        due("handed(-1, -1)", x.handed(-1, -1), BAD);
    }

    private static void late() {
        says("LATE for n DAYS (1 .. FAR)");
        chain("p124/0,1");
        due("late(1, -1)", x.late(1, -1), 2);
        due("late(7, -1): FAR", x.late(7, -1) > 0 ? 1 : 0, 1);
        due("late(8, -1)", x.late(8, -1), NOT);
        due("late(60, -1)", x.late(60, -1), NOT);
        outside("late(.., -1)", 1, 60, BAD, v -> x.late(v, -1));
        chain("o2");
        due("FAR is 0", x.late(1, -1), NOT);
        chain(TO_59);
        due("late(59, -1)", x.late(59, -1) > 0 ? 1 : 0, 1);
        due("late(60, -1)", x.late(60, -1), NOT);
        chain(TO_60);
        due("late(60, -1)", x.late(60, -1) > 0 ? 1 : 0, 1);
        due("late(61, -1)", x.late(61, -1), BAD);

        says("each of the CUTS is made on a DAY (1 .. n), ahead of paying");
        chain("p12/0");
        for (int n = 1; n <= 3; n++) {
            due("on day 1, ahead of paying", x.late(n, -1), 1);
            due("late(" + n + ", 0)", x.late(n, 0), 1);
        }
        chain("p22/0");
        set(4, 0, 0);
        due("never wanted: on day n", x.late(1, -1), 1);
        set(4, 63, 0);
        due("never wanted: on day 13", x.late(13, -1), 13);
        due("never wanted: on day 7", x.late(7, 0), 7);
        set(2, 1, 0);
        due("wanted on day 2", x.late(3, 0), 2);
        chain(TO_60);
        set(1, 127, 0);
        due("all on day 60", x.late(60, -1), 300);
        for (int i = 0; i < 5; i++) due("late(60, " + i + ")", x.late(60, i), 60);
        due("all on day 1", x.late(1, -1), 5);

        says("on each DAY DUE must be PAID by the PIECES that there are by the CUTS so far");
        // whole: 3; cut at 0: 1 2; cut at 1: 2 1; day 3 is paid whole too
        chain("p111/0,1");
        due("one cut for days 1, 2, 3, the other on day 3", x.late(3, -1), 4);
        due("of like ones the first", x.late(3, 0), 1);
        due("late(3, 1)", x.late(3, 1), 3);
        chain("b31/0");
        set(4, 0, 0);
        due("the cut would lose what is due", x.far(), 0);
        set(2, 0, 0);
        due("by the cut only", x.late(1, 0), 1);

        says("days of CUTS by which all of these numbers together are most; of like ones the first as a row, by NOTCHES, rising");
        set(1, 0, 0);
        chain("p1111/0,2");
        due("cut at 0 or at 2: 1 3; day 2 wants both", x.late(4, -1), 3);
        due("the first cut first", x.late(4, 0), 1);
        due("then the other", x.late(4, 1), 2);
        chain("p2111/0,2");
        due("2 2 1: the last first", x.late(1, 0), 1);
        due("day 1 wants the last only", x.late(1, 1), 1);
        due("day 2 wants the first", x.late(2, -1), 3);
        due("by notches: the first", x.late(2, 0), 2);
        due("by notches: the last", x.late(2, 1), 1);

        says("LATE for n DAYS: all together (-1), the DAY of the i-th CUT, by NOTCHES. BAD; NOT: FAR is less; NONE: there is no i-th (0 .. 4).");
        chain("o1");
        due("no cuts: together", x.late(1, -1), 0);
        for (int i = 0; i <= 4; i++) due("no cuts: late(1, " + i + ")", x.late(1, i), NONE);
        outside("no cuts: late(1, ..)", -1, 4, BAD, v -> x.late(1, v));
        for (int i = -1; i <= 4; i++) due("FAR is less: late(2, " + i + ")", x.late(2, i), NOT);
        outside("FAR is less: late(2, ..)", -1, 4, BAD, v -> x.late(2, v));
        chain("p12/0");
        due("one cut: late(1, 0)", x.late(1, 0), 1);
        due("one cut: late(1, 1)", x.late(1, 1), NONE);
        chain(TO_63);
        due("five cuts: late(1, 4)", x.late(1, 4), 1);
        due("five cuts: late(1, 5)", x.late(1, 5), BAD);
        due("five cuts: late(1, -2)", x.late(1, -2), BAD);
    }

    private static void images() {
        says("All but SHEETS, THE TAPE is kept as an IMAGE: 1.");
        chain("b345/1");
        set(2, 3, 5);
        type("o1");
        row(0, 1, 5);
        due("image()", x.image(), 1);
        x.chain();
        set(9, 0, 0);
        row(0, 2, 7, 7);
        x.sheet(1, 0, 3);
        type("r22/0");
        due("restore()", x.restore(), 1);
        due("of sheets nothing is kept: the lane", x.item(0, 2, 0, 1), 1);
        due("of sheets nothing is kept: drop(0)", x.drop(0), 2);
        due("of sheets nothing is kept: drop(1)", x.drop(1), 3);
        pieces("the chain", 0, 2, 6, 2, 1, 5);
        due("kind", x.count(5), 3);
        due("notch(0)", x.notch(0), 1);
        due("double on day 3 only", x.due(3), 4);
        due("of the tape nothing is kept", x.chain(), 2);
        due("kind", x.count(5), 1);
        due("rate", x.rate(0, 1), 2);
        due("off", x.rate(1, 1), 3);
        due("double", x.rate(2, 1), 5);
        due("image() again", x.image(), 1);
        chain("p1");
        due("restore()", x.restore(), 1);
        due("the second image", x.count(5), 1);

        says("All is as it was then: 1. NONE: there is none.");
        due("none", x.restore(), NONE);
        x.link(5);
        due("none still", x.restore(), NONE);
        due("all stays", x.count(0), 2);
        x.image();
        due("there is one", x.restore(), 1);
        for (int n = 3; n <= 24; n++) x.link(9);
        x.kind(2);
        cutAll(0, 1, 2, 3, 4);
        set(9, 1, 1);
        due("restore()", x.restore(), 1);
        pieces("two links", 0, 2, 6);
        due("link(2)", x.link(2), 3);
        due("open", x.count(5), 0);
        due("cut(2)", x.cut(2), 1);
        due("due(60)", x.due(60), 60);
        due("it stays: restore()", x.restore(), 1);
        due("it stays: links", x.count(0), 2);
        due("it stays: cuts", x.count(2), 0);
    }

    // ---- 4 sheets

    private static void seen() {
        says("of a row of n WORTHS (1 .. 8), PIECES that lie on a counter");
        chain("o1111111");
        row(0, 1, 1, 1, 1, 1, 1, 1, 1, 1, 1);
        for (int n = 1; n <= 8; n++) due("by 3 cuts 7 pieces at the most: n " + n, x.seen(3, 0, 1, 0, n, -1) > 0 ? 1 : 0, n <= 7 ? 1 : 0);
        due("seven of 1", x.seen(3, 0, 1, 0, 7, -1), 1);
        for (int j = 0; j < 3; j++) due("seven of 1: the notches", x.seen(3, 0, 1, 0, 7, j), 2 * j + 1);
        due("eight are none", x.seen(3, 0, 1, 1, 8, -1), 0);
        outside("n", 1, 8, BAD, v -> x.seen(3, 0, 1, 0, v, -1));

        chain("o11111111111/1,3,5,7,9");
        due("eleven of 1", x.count(3), 11);
        due("by 3 cuts six of 1, and 5", x.seen(3, 0, 1, 0, 6, -1), 4);
        due("by 3 cuts not seven of 1", x.seen(3, 0, 1, 0, 7, -1), 0);

        says("all sets of k NOTCHES (0 .. 3), CUT with no others CUT, by which there are PIECES of these WORTHS (each of another PIECE): how many, the first as a row");
        chain("p111111/0,2");
        row(0, 1, 2, 2, 6, 3);
        due("k 0: whole", x.seen(0, 0, 1, 2, 1, -1), 1);
        due("k 0: no 2", x.seen(0, 0, 1, 0, 1, -1), 0);
        due("k 1: one 2", x.seen(1, 0, 1, 0, 1, -1), 2);
        due("k 1: the first", x.seen(1, 0, 1, 0, 1, 0), 1);
        due("k 1: two of 2", x.seen(1, 0, 1, 0, 2, -1), 0);
        due("k 1: 3 is of one piece or of both", x.seen(1, 0, 1, 3, 1, -1), 1);
        due("k 2: two of 2", x.seen(2, 0, 1, 0, 2, -1), 1);
        due("k 2: the first", x.seen(2, 0, 1, 0, 2, 0), 1);
        due("k 2: the second", x.seen(2, 0, 1, 0, 2, 1), 3);
        due("k 3: two of 2", x.seen(3, 0, 1, 0, 2, -1), 6);
        int[] first = {0, 1, 3};
        for (int j = 0; j < 3; j++) due("k 3: the first", x.seen(3, 0, 1, 0, 2, j), first[j]);
        outside("k", 0, 3, BAD, v -> x.seen(v, 0, 1, 0, 1, -1));
        due("cuts stay", x.count(2), 2);
        chain("p22");
        due("fewer notches than k", x.seen(2, 0, 1, 0, 1, -1), 0);
        due("just so many", x.seen(1, 0, 1, 0, 2, -1), 1);

        says("how many sets (-1), the j-th NOTCH of the first (0 .. 2)");
        chain("o11111");
        row(0, 1, 1);
        for (int k = 0; k <= 3; k++) {
            int cuts = k;
            int[] sets = {0, 5, 10, 10};
            due("k " + k, x.seen(k, 0, 1, 0, 1, -1), sets[k]);
            for (int j = 0; j <= 2; j++) due("k " + k + ", j " + j, x.seen(k, 0, 1, 0, 1, j), j < k ? j : NONE);
            outside("k " + k + ", j", -1, 2, BAD, v -> x.seen(cuts, 0, 1, 0, 1, v));
        }

        says("NONE: there is none (0 ..), no j-th");
        chain("o11111");
        row(0, 1, 9, 5);
        for (int k = 0; k <= 3; k++) {
            due("none: -1", x.seen(k, 0, 1, 0, 1, -1), 0);
            for (int j = 0; j <= 2; j++) due("none: " + j, x.seen(k, 0, 1, 0, 1, j), NONE);
        }
        due("one by no cut", x.seen(0, 0, 1, 1, 1, -1), 1);
        due("it has no notch", x.seen(0, 0, 1, 1, 1, 0), NONE);
    }

    private static void seenWorths() {
        says("n WORTHS (1 .. 999 each), items of a SHEET, taken as a row of a LANE, from item i on");
        row(0, 1, 1, 999, 0, 1000, -1, LOW, HIGH, 1);
        int[] want = {1, 0, NOT, NOT, NOT, NOT, NOT, 1};
        for (int i = 0; i < 8; i++) due("int " + i, x.seen(0, 0, 1, i, 1, -1), want[i]);
        due("1 and 999", x.seen(0, 0, 1, 0, 2, -1), 0);
        due("the last is 0", x.seen(0, 0, 1, 0, 3, -1), NOT);
        due("the last is 0, of the first there is none", x.seen(0, 0, 1, 1, 2, -1), NOT);
        row(1, 0, 1, 127, 0, 128, -1, 1);
        want = new int[] {1, 0, NOT, NOT, NOT, 1};
        for (int i = 0; i < 6; i++) due("byte " + i, x.seen(0, 1, 0, i, 1, -1), want[i]);
        row(2, 2, 1, 999, 0, 1000, -1, (1L << 32) + 1, Long.MIN_VALUE, Long.MAX_VALUE, Long.MIN_VALUE + 1, 1);
        want = new int[] {1, 0, NOT, NOT, NOT, NOT, NOT, NOT, NOT, 1};
        for (int i = 0; i < 10; i++) due("long " + i, x.seen(0, 2, 2, i, 1, -1), want[i]);

        says("BAD; NULL; CAST; INDEX; NOT: a WORTH is not as told");
        row(0, 1, 1, 1, 1, 1, 1, 1, 1, 1, 1, 1);
        for (int n = 1; n <= 8; n++) {
            int many = n;
            due("up to the last", x.seen(0, 0, 1, 10 - n, n, -1), n == 1 ? 1 : 0);
            outside("i for n " + n, 0, 10 - n, INDEX, v -> x.seen(0, 0, 1, v, many, -1));
            due("i + n goes round", x.seen(0, 0, 1, HIGH - n + 1, n, -1), INDEX);
            due("i + n goes round", x.seen(0, 0, 1, HIGH - n + 2, n, -1), INDEX);
        }
        outside("sheet", 0, 3, BAD, v -> x.seen(0, v, 1, 0, 1, -1));
        outside("lane", 0, 2, BAD, v -> x.seen(0, 0, v, 0, 1, -1));
        for (int s = 1; s <= 3; s++) due("sheet " + s, x.seen(0, s, 1, 0, 1, -1), NULL);
        due("bytes", x.seen(0, 0, 0, 0, 1, -1), CAST);
        due("longs", x.seen(0, 0, 2, 0, 1, -1), CAST);
        x.sheet(3, 2, 0);
        due("an empty row", x.seen(0, 3, 2, 0, 1, -1), INDEX);
        due("an empty row of another lane", x.seen(0, 3, 1, 0, 1, -1), CAST);
    }

    private static void films() {
        says("WORTHS of all PIECES come to a SHEET likewise (their lowest bits): how many. BAD; NULL; CAST; INDEX.");
        chain("o11111111111/1,3,5,7,9");
        x.sheet(0, 1, 12);
        due("the most there can be, from 0 on", x.film(0, 1, 0), 11);
        due("from 1 on", x.film(0, 1, 1), 11);
        outside("film(0, 1, ..)", 0, 1, INDEX, v -> x.film(0, 1, v));
        x.sheet(0, 1, 11);
        due("just so many items", x.film(0, 1, 0), 11);
        outside("film(0, 1, ..)", 0, 0, INDEX, v -> x.film(0, 1, v));
        x.sheet(0, 1, 10);
        due("one too few", x.film(0, 1, 0), INDEX);
        due("nothing has come", x.seen(3, 0, 1, 0, 1, -1), NOT);
        x.sheet(0, 1, 0);
        due("an empty row", x.film(0, 1, 0), INDEX);
        outside("film(.., 1, 0)", 0, 3, BAD, v -> x.film(v, 1, 0));
        outside("film(0, .., 0)", 0, 2, BAD, v -> x.film(0, v, 0));
        for (int s = 1; s <= 3; s++) due("nothing at " + s, x.film(s, 1, 0), NULL);
        due("bytes", x.film(0, 0, 0), CAST);
        due("longs", x.film(0, 2, 0), CAST);
        for (int lane = 0; lane < 3; lane++) {
            chain("o" + NINES.substring(0, 14) + "1/14");
            x.sheet(1, lane, 3);
            due("126 and 1", x.film(1, lane, 1), 2);
            due("126 and 1 by one cut", x.seen(1, 1, lane, 1, 2, 0), 14);
            due("nothing comes ahead", x.seen(1, 1, lane, 0, 1, -1), NOT);
            chain("o" + NINES.substring(0, 14) + "2");
            due("128", x.film(1, lane, 0), 1);
            due("128: lowest bits", x.seen(0, 1, lane, 0, 1, -1), lane == 0 ? NOT : 1);
            due("nothing comes behind", x.seen(0, 1, lane, 1, 1, -1), 0);
            chain("o" + NINES);
            due("216", x.film(1, lane, 2), 1);
            due("216: lowest bits", x.seen(0, 1, lane, 2, 1, -1), lane == 0 ? NOT : 1);
        }
    }

    private static void sheets() {
        says("sheets 0 .. 3: nothing (at first), or a row of a LANE: 0 bytes, 1 ints, 2 longs, of 0 to 24 items");
        for (int s = 0; s <= 3; s++) due("nothing at " + s, x.drop(s), NULL);
        for (int s = 0; s <= 3; s++) {
            for (int lane = 0; lane <= 2; lane++) {
                for (int n : new int[] {0, 1, 24}) {
                    due("sheet(" + s + ", " + lane + ", " + n + ")", x.sheet(s, lane, n), n);
                    if (n > 0) due("the last item", x.item(s, lane, n - 1, 1), 1);
                    due("one behind it", x.item(s, lane, n, 1), INDEX);
                    due("another lane", x.item(s, (lane + 1) % 3, 0, 1), CAST);
                    due("another lane", x.item(s, (lane + 2) % 3, 0, 1), CAST);
                }
            }
        }

        says("A SHEET holds a new row of a LANE: n. BAD: also n above 24; SIZE: n below 0.");
        due("sheet(0, 1, 24)", x.sheet(0, 1, 24), 24);
        for (int n : new int[] {25, 26, 280, 65560, HIGH}) due("sheet(0, 1, " + n + ")", x.sheet(0, 1, n), BAD);
        for (int n : new int[] {-1, -2, -256, LOW}) due("sheet(0, 1, " + n + ")", x.sheet(0, 1, n), SIZE);
        outside("sheet(.., 1, 1)", 0, 3, BAD, v -> x.sheet(v, 1, 1));
        outside("sheet(0, .., 1)", 0, 2, BAD, v -> x.sheet(0, v, 1));
        for (int i = 0; i < 24; i++) x.item(0, 1, i, 1);
        x.sheet(0, 1, 24);
        for (int i = 0; i < 24; i++) due("a new row: item " + i + " is 0", x.seen(0, 0, 1, i, 1, -1), NOT);
        x.item(0, 1, 0, 1);
        x.sheet(0, 2, 1);
        due("a new row of another lane is 0", x.seen(0, 0, 2, 0, 1, -1), NOT);
        x.item(0, 2, 0, 1);
        x.drop(0);
        x.sheet(0, 2, 1);
        due("a new row behind a drop is 0", x.seen(0, 0, 2, 0, 1, -1), NOT);

        says("A SHEET holds nothing: how many items it had. BAD; NULL.");
        for (int s = 0; s <= 3; s++) {
            for (int n : new int[] {0, 1, 24}) {
                x.sheet(s, 0, n);
                due("drop(" + s + ")", x.drop(s), n);
                due("drop(" + s + ") again", x.drop(s), NULL);
            }
        }
        outside("drop", 0, 3, BAD, v -> x.drop(v));
    }

    private static void items() {
        says("Item i of a SHEET, taken as a row of a LANE, becomes v, its lowest bits: 1. BAD; NULL; CAST; INDEX.");
        long[] values = {1, 257, -255, (1L << 32) + 1, 1 - (1L << 32), Long.MIN_VALUE + 1, Long.MAX_VALUE, 128, 0};
        int[][] want = {{1, 1, 1, 1, 1, 1, NOT, NOT, NOT}, {1, 0, NOT, 1, 1, 1, NOT, 0, NOT}, {1, 0, NOT, NOT, NOT, NOT, NOT, 0, NOT}};
        for (int lane = 0; lane < 3; lane++) {
            x.sheet(lane, lane, 3);
            for (int v = 0; v < values.length; v++) {
                due("item of lane " + lane + ": " + values[v], x.item(lane, lane, 1, values[v]), 1);
                due("lane " + lane + ": " + values[v], x.seen(0, lane, lane, 1, 1, -1), want[lane][v]);
            }
            int at = lane;
            due("the first", x.item(lane, lane, 0, 1), 1);
            due("the last", x.item(lane, lane, 2, 1), 1);
            outside("item i", 0, 2, INDEX, v -> x.item(at, at, v, 1));
            outside("lane", 0, 2, BAD, v -> x.item(at, v, 0, 1));
            due("another lane", x.item(lane, (lane + 1) % 3, 0, 1), CAST);
            due("another lane", x.item(lane, (lane + 2) % 3, 0, 1), CAST);
        }
        for (int lane = 0; lane < 3; lane++) due("nothing there", x.item(3, lane, 0, 1), NULL);
        outside("sheet", 0, 3, BAD, v -> x.item(v, 1, 0, 1));
    }

    /** Whether the items of ints on a sheet are these, each 1 .. 12: a rope of 24 tells each by its first notch. */
    private static void holds(String what, int sheet, int... want) {
        chain("p" + ONES);
        for (int i = 0; i < want.length; i++) {
            due(what + ": item " + i, x.seen(1, sheet, 1, i, 1, 0) + 1, want[i]);
        }
        due(what + ": no more", x.item(sheet, 1, want.length, 0), INDEX);
    }

    private static void copies() {
        says("n items of a SHEET from i on come to another one (or the same) from j on, as if all were taken ahead: n.");
        row(0, 1, 1, 2, 3, 4, 5);
        row(1, 1, 7, 8, 9);
        due("none", x.copy(0, 0, 1, 0, 0), 0);
        holds("none", 1, 7, 8, 9);
        due("one", x.copy(0, 4, 1, 2, 1), 1);
        holds("one", 1, 7, 8, 5);
        due("all that it holds", x.copy(0, 1, 1, 0, 3), 3);
        holds("all that it holds", 1, 2, 3, 4);
        due("the same, up", x.copy(0, 0, 0, 1, 4), 4);
        holds("up", 0, 1, 1, 2, 3, 4);
        row(0, 1, 1, 2, 3, 4, 5);
        due("the same, down", x.copy(0, 1, 0, 0, 4), 4);
        holds("down", 0, 2, 3, 4, 5, 5);
        due("the same, at the same place", x.copy(0, 0, 0, 0, 5), 5);
        holds("at the same place", 0, 2, 3, 4, 5, 5);
        x.sheet(2, 1, 24);
        x.sheet(3, 1, 24);
        due("24", x.copy(2, 0, 3, 0, 24), 24);
        for (int lane = 0; lane < 3; lane += 2) {
            row(2, lane, 1, 0);
            row(3, lane, 0, 0);
            x.copy(2, 0, 3, 1, 1);
            chain("o1");
            due("lane " + lane, x.seen(0, 3, lane, 1, 1, -1), 1);
        }

        says("BAD; NULL (either); CAST: of unlike LANES; INDEX.");
        row(0, 1, 1, 2, 3);
        row(1, 1, 4, 5);
        outside("from", 0, 3, BAD, v -> x.copy(v, 0, 1, 0, 1));
        outside("to", 0, 3, BAD, v -> x.copy(0, 0, v, 0, 1));
        due("nothing at the one", x.copy(3, 0, 0, 0, 1), NULL);
        due("nothing at the other", x.copy(0, 0, 3, 0, 1), NULL);
        due("nothing at both", x.copy(2, 0, 3, 0, 0), NULL);
        x.sheet(2, 2, 3);
        due("ints to longs", x.copy(0, 0, 2, 0, 1), CAST);
        due("longs to ints", x.copy(2, 0, 0, 0, 1), CAST);
        due("none of ints to longs", x.copy(0, 0, 2, 0, 0), CAST);
        due("2 from the last but one", x.copy(0, 1, 1, 0, 2), 2);
        outside("i for 2", 0, 1, INDEX, v -> x.copy(0, v, 1, 0, 2));
        outside("j for 2", 0, 0, INDEX, v -> x.copy(0, 0, 1, v, 2));
        outside("n from the first, to the first", 0, 2, INDEX, v -> x.copy(0, 0, 1, 0, v));
        outside("n from the last", 0, 1, INDEX, v -> x.copy(0, 2, 1, 0, v));
        outside("n to the last", 0, 1, INDEX, v -> x.copy(0, 0, 1, 1, v));
        due("i + n goes round", x.copy(0, HIGH, 1, 0, 1), INDEX);
        due("j + n goes round", x.copy(0, 0, 1, HIGH, 1), INDEX);
        due("both go round", x.copy(0, HIGH, 1, HIGH, HIGH), INDEX);
        due("none, just behind the end", x.copy(0, 3, 1, 2, 0), 0);
        due("none, one farther", x.copy(0, 4, 1, 2, 0), INDEX);
        due("none, one farther", x.copy(0, 3, 1, 3, 0), INDEX);
        holds("refused: all stays", 0, 1, 2, 3);
    }
}
