/** A chain of links that is cut so that an innkeeper may have each morning what is due. */
public final class LinkDays {
    public static final int BAD = -1, NOT = -2, FULL = -3, NONE = -4, NULL = -11, CAST = -12, INDEX = -13, SIZE = -14;

    private static final int OPEN = 0, RING = 1, BAR = 3;
    private static final String KIND_SIGNS = "orpb";
    private static final int MOST_LINKS = 24, MOST_WORTH = 9, MOST_CUTS = 5;
    private static final int MOST_PIECES = 2 * MOST_CUTS + 1, MOST_SETS = 1 << MOST_PIECES;
    private static final int WHOLE_WORTH = MOST_LINKS * MOST_WORTH;
    private static final int LAST_DAY = 60, MOST_RATE = 9, WEEK_SETS = 127, MOST_SUM = 999;
    private static final int TRIED_CUTS = 4, SEEN_CUTS = 3, MOST_SEEN = 8;
    // Far above the 10,626 ways to choose 4 of 24: it only shows that the loops over choices end.
    private static final int MANY_CHOICES = 1000000;
    private static final int TAPE = 60, TEXT_FAULT = -20;
    private static final int SHEETS = 4, LANES = 3, MOST_ITEMS = 24;
    private static final int BYTES = 0, INTS = 1;

    private final Chain chain = new Chain();
    private final Days days = new Days();
    private final Chain imageChain = new Chain();
    private final Days imageDays = new Days();
    private boolean hasImage;
    private final Tape tape = new Tape();
    private final Chain draft = new Chain();
    private final Pieces pieces = new Pieces();
    private final Sums sums = new Sums();
    private final Sets sets = new Sets();
    private final Choice choice = new Choice();
    private final Best best = new Best();
    private final Delay delay = new Delay();
    private final Sheet[] sheets = new Sheet[SHEETS];
    private final int[] wanted = new int[MOST_SEEN];
    private final int[] seenRow = new int[SEEN_CUTS];

    public LinkDays() {
        for (int i = 0; i < SHEETS; i++) {
            sheets[i] = new Sheet();
        }
    }

    // ---- 1 the chain

    public int kind(int v) {
        if (!within(v, OPEN, BAR)) {
            return BAD;
        }
        int was = chain.kind;
        chain.kind = v;
        chain.cutCount = 0;
        best.forget();
        return was;
    }

    public int link(int worth) {
        if (!within(worth, 1, MOST_WORTH)) {
            return BAD;
        }
        if (chain.links >= MOST_LINKS) {
            return FULL;
        }
        chain.append(worth);
        best.forget();
        return chain.links;
    }

    public int worth(int link, int v) {
        if (!within(link, 0, chain.links - 1) || !within(v, 1, MOST_WORTH)) {
            return BAD;
        }
        int was = chain.worths[link];
        chain.value(link, v);
        best.forget();
        return was;
    }

    public int cut(int notch) {
        if (!chain.hasNotch(notch)) {
            return BAD;
        }
        if (chain.placeOf(notch) >= 0) {
            return NOT;
        }
        if (chain.cutCount >= MOST_CUTS) {
            return FULL;
        }
        chain.open(notch);
        return chain.cutCount;
    }

    public int mend(int notch) {
        if (!chain.hasNotch(notch)) {
            return BAD;
        }
        int place = chain.placeOf(notch);
        if (place < 0) {
            return NOT;
        }
        chain.close(place);
        return chain.cutCount;
    }

    public int type(long w, int n) {
        if (!within(n, 1, 8) || !Tape.canHold(w, n)) {
            return BAD;
        }
        if (tape.length + n > TAPE) {
            return FULL;
        }
        tape.write(w, n);
        return tape.length;
    }

    public int chain() {
        int answer = tape.read(draft);
        tape.length = 0;
        if (answer > 0) {
            chain.take(draft);
            best.forget();
        }
        return answer;
    }

    public int count(int what) {
        switch (what) {
            case 0:
                return chain.links;
            case 1:
                return chain.notches();
            case 2:
                return chain.cutCount;
            case 3:
                divide();
                return pieces.count;
            case 4:
                divide();
                return pieces.whole();
            case 5:
                return chain.kind;
            default:
                return BAD;
        }
    }

    public int piece(int i, int what) {
        divide();
        if (!within(i, 0, pieces.count - 1)) {
            return BAD;
        }
        switch (what) {
            case 0:
                return pieces.first[i];
            case 1:
                return pieces.size[i];
            case 2:
                return pieces.value[i];
            default:
                return BAD;
        }
    }

    public int notch(int i) {
        return within(i, 0, chain.cutCount - 1) ? chain.cuts[i] : BAD;
    }

    // ---- 2 days

    public int rate(int what, int v) {
        if (!within(what, 0, 2) || !within(v, what == 0 ? 1 : 0, what == 0 ? MOST_RATE : WEEK_SETS)) {
            return BAD;
        }
        best.forget();
        return days.set(what, v);
    }

    public int due(int day) {
        return within(day, 1, LAST_DAY) ? days.dues[day] : BAD;
    }

    public int pays(int sum) {
        if (!within(sum, 0, MOST_SUM)) {
            return BAD;
        }
        divide();
        sums.load(pieces);
        return sums.has(sum) ? 1 : 0;
    }

    public int far() {
        return daysPaid();
    }

    public int kept() {
        divide();
        sets.load(pieces);
        return sets.daysGrowing(days.dues);
    }

    public int two(int rate) {
        if (!within(rate, 1, MOST_RATE)) {
            return BAD;
        }
        divide();
        sets.load(pieces);
        return sets.daysApart(days.dues, rate);
    }

    public int most(int k, int i) {
        if (!within(k, 0, TRIED_CUTS) || !within(i, -1, TRIED_CUTS - 1)) {
            return BAD;
        }
        if (k > chain.notches() || i >= k) {
            return NONE;
        }
        findBest(k);
        return i < 0 ? best.far[k] : best.rows[k][i];
    }

    public int fewest(int n) {
        if (!within(n, 0, LAST_DAY)) {
            return BAD;
        }
        if (n > days.coveredBy(chain.whole())) {
            return NONE;
        }
        for (int k = 0; k <= TRIED_CUTS && k <= chain.notches(); k++) {
            findBest(k);
            if (best.far[k] >= n) {
                return k;
            }
        }
        return NONE;
    }

    // ---- 3 counters

    public int handed(int n, int day) {
        if (!within(n, 1, LAST_DAY) || !within(day, 0, n)) {
            return BAD;
        }
        if (daysPaid() < n) {
            return NOT;
        }
        if (!sets.hasLookedBack(pieces, days.dues, n)) {
            sets.load(pieces);
            sets.lookBack(days.dues, n);
        }
        return day == 0 ? sets.handedInAll(days.dues) : sets.onCounter(days.dues, day);
    }

    public int late(int n, int i) {
        if (!within(n, 1, LAST_DAY) || !within(i, -1, MOST_CUTS - 1)) {
            return BAD;
        }
        if (daysPaid() < n) {
            return NOT;
        }
        if (i >= chain.cutCount) {
            return NONE;
        }
        for (int part = 0; part < 1 << chain.cutCount; part++) {
            int k = delay.choosePart(chain, part);
            pieces.split(chain, delay.row, k);
            sums.load(pieces);
            delay.paid[part] = sums.paidDays(days.dues);
        }
        delay.reckon(chain.cutCount, n);
        return i < 0 ? delay.together() : delay.dayOf(i);
    }

    public int image() {
        imageChain.take(chain);
        imageDays.take(days);
        hasImage = true;
        return 1;
    }

    public int restore() {
        if (!hasImage) {
            return NONE;
        }
        chain.take(imageChain);
        days.take(imageDays);
        best.forget();
        return 1;
    }

    // ---- 4 sheets

    public int seen(int k, int sheet, int lane, int i, int n, int j) {
        if (!within(k, 0, SEEN_CUTS) || !isRow(sheet, lane) || !within(n, 1, MOST_SEEN)
                || !within(j, -1, SEEN_CUTS - 1)) {
            return BAD;
        }
        int wrong = sheets[sheet].refusal(lane, i, n);
        if (wrong != 0) {
            return wrong;
        }
        if (!takeWanted(sheets[sheet], i, n)) {
            return NOT;
        }
        int found = countSeen(k, n);
        if (j < 0) {
            return found;
        }
        return found == 0 || j >= k ? NONE : seenRow[j];
    }

    public int film(int sheet, int lane, int i) {
        if (!isRow(sheet, lane)) {
            return BAD;
        }
        divide();
        int wrong = sheets[sheet].refusal(lane, i, pieces.count);
        if (wrong != 0) {
            return wrong;
        }
        for (int p = 0; p < pieces.count; p++) {
            sheets[sheet].put(i + p, pieces.value[p]);
        }
        return pieces.count;
    }

    public int sheet(int sheet, int lane, int n) {
        if (!isRow(sheet, lane) || n > MOST_ITEMS) {
            return BAD;
        }
        if (n < 0) {
            return SIZE;
        }
        sheets[sheet].renew(lane, n);
        return n;
    }

    public int drop(int sheet) {
        if (!within(sheet, 0, SHEETS - 1)) {
            return BAD;
        }
        if (!sheets[sheet].there) {
            return NULL;
        }
        sheets[sheet].there = false;
        return sheets[sheet].length;
    }

    public int item(int sheet, int lane, int i, long v) {
        if (!isRow(sheet, lane)) {
            return BAD;
        }
        int wrong = sheets[sheet].refusal(lane, i, 1);
        if (wrong != 0) {
            return wrong;
        }
        sheets[sheet].put(i, v);
        return 1;
    }

    public int copy(int from, int i, int to, int j, int n) {
        if (!within(from, 0, SHEETS - 1) || !within(to, 0, SHEETS - 1)) {
            return BAD;
        }
        Sheet source = sheets[from];
        Sheet target = sheets[to];
        if (!source.there || !target.there) {
            return NULL;
        }
        if (source.lane != target.lane) {
            return CAST;
        }
        if (!source.spans(i, n) || !target.spans(j, n)) {
            return INDEX;
        }
        System.arraycopy(source.items, i, target.items, j, n);
        return n;
    }

    // ---- what several calls need

    private static boolean within(int v, int low, int high) {
        return v >= low && v <= high;
    }

    private static boolean isRow(int sheet, int lane) {
        return within(sheet, 0, SHEETS - 1) && within(lane, 0, LANES - 1);
    }

    private void divide() {
        pieces.split(chain, chain.cuts, chain.cutCount);
    }

    /** FAR; leaves the chain's pieces in {@code pieces}. */
    private int daysPaid() {
        divide();
        sums.load(pieces);
        return sums.daysInRow(days.dues);
    }

    private void findBest(int k) {
        if (best.known[k]) {
            return;
        }
        best.far[k] = NONE;
        int top = days.coveredBy(chain.whole());
        boolean more = choice.begin(k, chain.notches());
        for (int tried = 0; tried < MANY_CHOICES && more; tried++) {
            pieces.split(chain, choice.row, k);
            sums.load(pieces);
            best.offer(k, sums.daysInRow(days.dues), choice.row);
            // No later choice replaces one that comes as far as all the worth allows.
            more = best.far[k] < top && choice.step();
        }
        best.known[k] = true;
    }

    private boolean takeWanted(Sheet from, int i, int n) {
        for (int p = 0; p < n; p++) {
            long v = from.items[i + p];
            if (v < 1 || v > MOST_SUM) {
                return false;
            }
            wanted[p] = (int) v;
        }
        return true;
    }

    private int countSeen(int k, int n) {
        int found = 0;
        boolean more = choice.begin(k, chain.notches());
        for (int tried = 0; tried < MANY_CHOICES && more; tried++) {
            pieces.split(chain, choice.row, k);
            if (pieces.haveAll(wanted, n)) {
                if (found == 0) {
                    System.arraycopy(choice.row, 0, seenRow, 0, k);
                }
                found++;
            }
            more = choice.step();
        }
        return found;
    }

    /** Links, their worths and the notches that are cut. */
    private static final class Chain {
        final int[] worths = new int[MOST_LINKS];
        /** Worth of all links ahead of one: a row's worth is a difference then. */
        final int[] ahead = new int[MOST_LINKS + 1];
        final int[] cuts = new int[MOST_CUTS];
        int kind = OPEN;
        int links;
        int cutCount;

        Chain() {
            append(1);
        }

        void begin(int newKind) {
            kind = newKind;
            links = 0;
            cutCount = 0;
        }

        void append(int worth) {
            worths[links] = worth;
            ahead[links + 1] = ahead[links] + worth;
            links++;
        }

        void value(int link, int worth) {
            worths[link] = worth;
            for (int i = link; i < links; i++) {
                ahead[i + 1] = ahead[i] + worths[i];
            }
        }

        int whole() {
            return ahead[links];
        }

        /** Whether a cut opens a link, so that it comes off alone. */
        boolean losesLinks() {
            return kind == OPEN || kind == RING;
        }

        int notches() {
            return losesLinks() ? links : links - 1;
        }

        boolean hasNotch(int notch) {
            return notch >= 0 && notch < notches();
        }

        int placeOf(int notch) {
            for (int i = 0; i < cutCount; i++) {
                if (cuts[i] == notch) {
                    return i;
                }
            }
            return -1;
        }

        void open(int notch) {
            int place = cutCount;
            for (int i = cutCount - 1; i >= 0 && cuts[i] > notch; i--) {
                cuts[i + 1] = cuts[i];
                place = i;
            }
            cuts[place] = notch;
            cutCount++;
        }

        void close(int place) {
            for (int i = place; i + 1 < cutCount; i++) {
                cuts[i] = cuts[i + 1];
            }
            cutCount--;
        }

        void take(Chain other) {
            System.arraycopy(other.worths, 0, worths, 0, MOST_LINKS);
            System.arraycopy(other.ahead, 0, ahead, 0, MOST_LINKS + 1);
            System.arraycopy(other.cuts, 0, cuts, 0, MOST_CUTS);
            kind = other.kind;
            links = other.links;
            cutCount = other.cutCount;
        }
    }

    /** What a chain falls into by some cuts, by first links. */
    private static final class Pieces {
        final int[] first = new int[MOST_PIECES];
        final int[] size = new int[MOST_PIECES];
        final int[] value = new int[MOST_PIECES];
        int count;

        void split(Chain chain, int[] cuts, int k) {
            count = 0;
            int from = 0;
            for (int i = 0; i < k; i++) {
                int notch = cuts[i];
                if (chain.losesLinks()) {
                    add(chain, from, notch);
                    add(chain, notch, notch + 1);
                } else {
                    add(chain, from, notch + 1);
                    lose(chain, notch);
                }
                from = notch + 1;
            }
            add(chain, from, chain.links);
            if (chain.kind == RING && k > 0 && cuts[0] != 0 && cuts[k - 1] != chain.links - 1) {
                joinEnds();
            }
        }

        private void add(Chain chain, int from, int to) {
            if (from < to) {
                first[count] = from;
                size[count] = to - from;
                value[count] = chain.ahead[to] - chain.ahead[from];
                count++;
            }
        }

        /** Of a bar the piece that was added last ends with the link that the cut harms. */
        private void lose(Chain chain, int notch) {
            if (chain.kind == BAR && chain.worths[notch] > 1) {
                value[count - 1]--;
            }
        }

        private void joinEnds() {
            size[count - 1] += size[0];
            value[count - 1] += value[0];
            count--;
            for (int i = 0; i < count; i++) {
                first[i] = first[i + 1];
                size[i] = size[i + 1];
                value[i] = value[i + 1];
            }
        }

        int whole() {
            int all = 0;
            for (int i = 0; i < count; i++) {
                all += value[i];
            }
            return all;
        }

        boolean haveAll(int[] worths, int n) {
            int used = 0;
            for (int i = 0; i < n; i++) {
                int free = freePiece(worths[i], used);
                if (free < 0) {
                    return false;
                }
                used |= 1 << free;
            }
            return true;
        }

        private int freePiece(int worth, int used) {
            for (int i = 0; i < count; i++) {
                if (value[i] == worth && (used >> i & 1) == 0) {
                    return i;
                }
            }
            return -1;
        }
    }

    /** The rate, the days off and the double ones, and what is due by them. */
    private static final class Days {
        final int[] dues = new int[LAST_DAY + 1];
        int each = 1;
        int off;
        int twice;

        Days() {
            reckon();
        }

        int set(int what, int v) {
            int was = what == 0 ? each : what == 1 ? off : twice;
            if (what == 0) {
                each = v;
            } else if (what == 1) {
                off = v;
            } else {
                twice = v;
            }
            reckon();
            return was;
        }

        private void reckon() {
            for (int day = 1; day <= LAST_DAY; day++) {
                int bit = 1 << (day - 1) % 7;
                int comes = (off & bit) != 0 ? 0 : (twice & bit) != 0 ? 2 * each : each;
                dues[day] = dues[day - 1] + comes;
            }
        }

        /** On how many days no more is due than a worth: no cuts come farther with it. */
        int coveredBy(int worth) {
            int day = 0;
            while (day < LAST_DAY && dues[day + 1] <= worth) {
                day++;
            }
            return day;
        }

        void take(Days other) {
            System.arraycopy(other.dues, 0, dues, 0, LAST_DAY + 1);
            each = other.each;
            off = other.off;
            twice = other.twice;
        }
    }

    /** The sums that pieces pay, as bits. */
    private static final class Sums {
        final long[] bits = new long[(WHOLE_WORTH >> 6) + 1];
        int words;

        void load(Pieces pieces) {
            words = (pieces.whole() >> 6) + 1;
            for (int i = 0; i < words; i++) {
                bits[i] = 0;
            }
            bits[0] = 1;
            for (int i = 0; i < pieces.count; i++) {
                addPiece(pieces.value[i]);
            }
        }

        private void addPiece(int worth) {
            int far = worth >> 6;
            int near = worth & 63;
            for (int i = words - 1; i >= far; i--) {
                long moved = bits[i - far] << near;
                if (near > 0 && i > far) {
                    moved |= bits[i - far - 1] >>> 64 - near;
                }
                bits[i] |= moved;
            }
        }

        boolean has(int sum) {
            return sum >= 0 && sum >> 6 < words && (bits[sum >> 6] >>> (sum & 63) & 1) != 0;
        }

        int daysInRow(int[] dues) {
            int day = 0;
            while (day < LAST_DAY && has(dues[day + 1])) {
                day++;
            }
            return day;
        }

        /** Bit d: what is due on day d is paid. */
        long paidDays(int[] dues) {
            long paid = 0;
            for (int day = 1; day <= LAST_DAY; day++) {
                if (has(dues[day])) {
                    paid |= 1L << day;
                }
            }
            return paid;
        }
    }

    /** All sets of the pieces, those of like worth together, each group rising. */
    private static final class Sets {
        final int[] worths = new int[MOST_SETS];
        final int[] order = new int[MOST_SETS];
        /** Group w goes from ends[w] to ends[w + 1] in the order. */
        final int[] ends = new int[WHOLE_WORTH + 2];
        /** Of a set: 1 or 0, whether it is reached; or how many pieces are handed behind it. */
        final int[] notes = new int[MOST_SETS];
        int whole;
        int pieceCount;
        /** For how many days the notes tell what is handed, and by which dues; 0: they don't. */
        int lookedBack;
        final int[] lookedAt = new int[LAST_DAY + 1];

        void load(Pieces pieces) {
            pieceCount = pieces.count;
            lookedBack = 0;
            worths[0] = 0;
            for (int i = 0; i < pieces.count; i++) {
                int bit = 1 << i;
                for (int set = 0; set < bit; set++) {
                    worths[bit + set] = worths[set] + pieces.value[i];
                }
            }
            int all = 1 << pieces.count;
            whole = worths[all - 1];
            sortGroups(all);
        }

        private void sortGroups(int all) {
            for (int w = 0; w <= whole + 1; w++) {
                ends[w] = 0;
            }
            for (int set = 0; set < all; set++) {
                ends[worths[set]]++;
            }
            for (int w = 1; w <= whole + 1; w++) {
                ends[w] += ends[w - 1];
            }
            // Set from behind: each end moves down to its group's start.
            for (int set = all - 1; set >= 0; set--) {
                int place = --ends[worths[set]];
                order[place] = set;
            }
        }

        private int from(int worth) {
            return within(worth, 0, whole) ? ends[worth] : 0;
        }

        private int to(int worth) {
            return within(worth, 0, whole) ? ends[worth + 1] : 0;
        }

        /** KEPT. */
        int daysGrowing(int[] dues) {
            notes[0] = 1;
            for (int day = 1; day <= LAST_DAY; day++) {
                // Each piece is worth something: while no more is due all stays as it lies.
                if (dues[day] != dues[day - 1] && !grow(dues[day - 1], dues[day])) {
                    return day - 1;
                }
            }
            return LAST_DAY;
        }

        private boolean grow(int old, int due) {
            boolean any = false;
            for (int at = from(due); at < to(due); at++) {
                int set = order[at];
                notes[set] = holdsReached(set, old) ? 1 : 0;
                any = any || notes[set] == 1;
            }
            return any;
        }

        private boolean holdsReached(int set, int old) {
            int end = to(old);
            for (int at = from(old); at < end; at++) {
                if ((order[at] & ~set) == 0 && notes[order[at]] == 1) {
                    return true;
                }
            }
            return false;
        }

        /** TWO. */
        int daysApart(int[] dues, int second) {
            int day = 0;
            while (day < LAST_DAY && paysApart(dues[day + 1], second * (day + 1))) {
                day++;
            }
            return day;
        }

        private boolean paysApart(int one, int other) {
            if (one + other > whole) {
                return false;
            }
            int end = to(other);
            for (int at = from(one); at < to(one); at++) {
                for (int by = from(other); by < end; by++) {
                    if ((order[at] & order[by]) == 0) {
                        return true;
                    }
                }
            }
            return false;
        }

        /**
         * Notes of each set how many pieces are handed behind its last day at the fewest, from day
         * n back. A set has one worth, so one note does for all its days: from a day to the next
         * with the same due nothing need be handed.
         */
        void lookBack(int[] dues, int n) {
            for (int at = from(dues[n]); at < to(dues[n]); at++) {
                notes[order[at]] = 0;
            }
            for (int day = n - 1; day >= 1; day--) {
                if (dues[day] != dues[day + 1]) {
                    lookAhead(dues[day], dues[day + 1]);
                }
            }
            System.arraycopy(dues, 0, lookedAt, 0, LAST_DAY + 1);
            lookedBack = n;
        }

        /** Whether the notes hold for these still: days are asked for one by one, and notes are dear. */
        boolean hasLookedBack(Pieces pieces, int[] dues, int n) {
            if (lookedBack != n || pieceCount != pieces.count) {
                return false;
            }
            for (int i = 0; i < pieceCount; i++) {
                if (worths[1 << i] != pieces.value[i]) {
                    return false;
                }
            }
            for (int day = 1; day <= n; day++) {
                if (lookedAt[day] != dues[day]) {
                    return false;
                }
            }
            return true;
        }

        int handedInAll(int[] dues) {
            return handedTo(0, follower(0, dues[1]));
        }

        private void lookAhead(int due, int next) {
            for (int at = from(due); at < to(due); at++) {
                int set = order[at];
                notes[set] = handedTo(set, follower(set, next));
            }
        }

        private int handedTo(int set, int next) {
            return Integer.bitCount(set ^ next) + notes[next];
        }

        /** The first set for what is due next by which the fewest are handed from here on. */
        private int follower(int set, int due) {
            int found = 0;
            int least = Integer.MAX_VALUE;
            int end = to(due);
            for (int at = from(due); at < end; at++) {
                int all = handedTo(set, order[at]);
                if (all < least) {
                    least = all;
                    found = order[at];
                }
            }
            return found;
        }

        int onCounter(int[] dues, int day) {
            int set = 0;
            for (int d = 1; d <= day; d++) {
                set = follower(set, dues[d]);
            }
            return set;
        }
    }

    /** Rows of some of the numbers below a bound, rising, one behind the other. */
    private static final class Choice {
        final int[] row = new int[TRIED_CUTS];
        int size;
        int bound;

        boolean begin(int k, int below) {
            size = k;
            bound = below;
            for (int i = 0; i < k; i++) {
                row[i] = i;
            }
            return k <= below;
        }

        boolean step() {
            for (int i = size - 1; i >= 0; i--) {
                if (row[i] < bound - size + i) {
                    row[i]++;
                    for (int j = i + 1; j < size; j++) {
                        row[j] = row[j - 1] + 1;
                    }
                    return true;
                }
            }
            return false;
        }
    }

    /** MOST, kept by numbers of cuts until the links or the days change: it is dear to find. */
    private static final class Best {
        final boolean[] known = new boolean[TRIED_CUTS + 1];
        final int[] far = new int[TRIED_CUTS + 1];
        final int[][] rows = new int[TRIED_CUTS + 1][TRIED_CUTS];

        void forget() {
            for (int k = 0; k <= TRIED_CUTS; k++) {
                known[k] = false;
            }
        }

        void offer(int k, int days, int[] row) {
            if (days > far[k]) {
                far[k] = days;
                System.arraycopy(row, 0, rows[k], 0, k);
            }
        }
    }

    /**
     * LATE. A cut on a day counts that day times WHOLE, less the day as a digit to the base 61, the
     * first notch's the highest: the most of such counts is the most of days, and of like ones
     * the first row.
     */
    private static final class Delay {
        private static final long WHOLE = 844596301L;
        private static final long BASE = 61L;
        private static final long[] DIGITS = {13845841L, 226981L, 3721L, 61L, 1L};
        final int[] row = new int[MOST_CUTS];
        /** By parts of the cuts: the days on which the pieces that these make can pay, as bits. */
        final long[] paid = new long[1 << MOST_CUTS];
        /** By parts of the cuts: the most that they count if just these are made, -1: can't be. */
        final long[] counts = new long[1 << MOST_CUTS];
        long most;

        int choosePart(Chain chain, int part) {
            int k = 0;
            for (int i = 0; i < chain.cutCount; i++) {
                if ((part >> i & 1) != 0) {
                    row[k] = chain.cuts[i];
                    k++;
                }
            }
            return k;
        }

        void reckon(int cutCount, int n) {
            int parts = 1 << cutCount;
            counts[0] = 0;
            for (int part = 1; part < parts; part++) {
                counts[part] = -1;
            }
            for (int day = 1; day <= n; day++) {
                for (int i = 0; i < cutCount; i++) {
                    makeCut(i, day, parts);
                }
                keepPaid(day, parts);
            }
            most = counts[parts - 1];
        }

        private void makeCut(int i, int day, int parts) {
            int bit = 1 << i;
            long gain = day * (WHOLE - DIGITS[i]);
            for (int part = 0; part < parts; part++) {
                if ((part & bit) != 0 && counts[part ^ bit] >= 0) {
                    counts[part] = Math.max(counts[part], counts[part ^ bit] + gain);
                }
            }
        }

        private void keepPaid(int day, int parts) {
            for (int part = 0; part < parts; part++) {
                if ((paid[part] >> day & 1) == 0) {
                    counts[part] = -1;
                }
            }
        }

        int together() {
            return (int) ((most + WHOLE - 1) / WHOLE);
        }

        int dayOf(int i) {
            long digits = together() * WHOLE - most;
            return (int) (digits / DIGITS[i] % BASE);
        }
    }

    /** Bytes that are typed, and how they are read as a chain. */
    private static final class Tape {
        private static final int END = -1, BLANK = 32, LAST_SIGN = 126;
        final byte[] bytes = new byte[TAPE];
        int length;
        private int at;

        static boolean canHold(long w, int n) {
            for (int i = 0; i < n; i++) {
                if (!within(byteOf(w, i), BLANK, LAST_SIGN)) {
                    return false;
                }
            }
            return true;
        }

        private static int byteOf(long w, int i) {
            return (int) (w >>> 8 * i & 255);
        }

        void write(long w, int n) {
            for (int i = n - 1; i >= 0; i--) {
                bytes[length] = (byte) byteOf(w, i);
                length++;
            }
        }

        /** How many links, or a fault. */
        int read(Chain into) {
            at = 0;
            int sign = sight();
            int kind = sign == END ? -1 : KIND_SIGNS.indexOf((char) sign);
            if (kind < 0) {
                return faultAt(at);
            }
            at++;
            into.begin(kind);
            readWorths(into);
            sign = sight();
            if (into.links > 0 && sign == END) {
                return into.links;
            }
            if (into.links == 0 || sign != '/') {
                return faultAt(at);
            }
            at++;
            return readCuts(into);
        }

        private void readWorths(Chain into) {
            for (int i = 0; i < MOST_LINKS && within(sight(), '1', '9'); i++) {
                into.append(bytes[at] - '0');
                at++;
            }
        }

        private int readCuts(Chain into) {
            for (int i = 1; i <= MOST_CUTS; i++) {
                if (!within(sight(), '0', '9')) {
                    return faultAt(at);
                }
                int start = at;
                int notch = readNumber();
                if (!into.hasNotch(notch) || into.placeOf(notch) >= 0) {
                    return faultAt(start);
                }
                into.open(notch);
                int sign = sight();
                if (sign == END) {
                    return into.links;
                }
                if (sign != ',' || i == MOST_CUTS) {
                    return faultAt(at);
                }
                at++;
            }
            return faultAt(at);
        }

        private int readNumber() {
            int number = 0;
            while (at < length && within(bytes[at], '0', '9')) {
                // No chain has so many notches: a longer number stays too great.
                number = Math.min(number * 10 + bytes[at] - '0', MOST_LINKS);
                at++;
            }
            return number;
        }

        /** The byte behind blanks, which stays. */
        private int sight() {
            while (at < length && bytes[at] == BLANK) {
                at++;
            }
            return at < length ? bytes[at] : END;
        }

        private static int faultAt(int place) {
            return TEXT_FAULT - place;
        }
    }

    /** Nothing, or a row of a lane. */
    private static final class Sheet {
        final long[] items = new long[MOST_ITEMS];
        boolean there;
        int lane;
        int length;

        void renew(int newLane, int n) {
            there = true;
            lane = newLane;
            length = n;
            for (int i = 0; i < MOST_ITEMS; i++) {
                items[i] = 0;
            }
        }

        boolean spans(int i, int n) {
            return i >= 0 && n >= 0 && n <= length && i <= length - n;
        }

        /** What the machine would find, if n items from i on were taken as a lane's; 0: nothing. */
        int refusal(int asLane, int i, int n) {
            if (!there) {
                return NULL;
            }
            if (lane != asLane) {
                return CAST;
            }
            return spans(i, n) ? 0 : INDEX;
        }

        void put(int i, long v) {
            items[i] = lane == BYTES ? (byte) v : lane == INTS ? (int) v : v;
        }
    }
}
