import java.util.ArrayList;
import java.util.Arrays;
import java.util.HashMap;
import java.util.HashSet;
import java.util.List;
import java.util.Map;
import java.util.Random;
import java.util.Set;
import java.util.TreeSet;

/** Random runs: each answer of LinkDays against a plain model that tries all there is to try. */
public final class LinkDaysOracle {
    private static final int BAD = -1, NOT = -2, FULL = -3, NONE = -4, NULL = -11, CAST = -12, INDEX = -13, SIZE = -14;
    private static int wrong = 0;

    public static void main(String[] args) {
        int runs = args.length > 0 ? Integer.parseInt(args[0]) : 1500;
        long calls = 0;
        Map<String, Integer> told = new HashMap<>();
        for (int run = 0; run < runs && wrong < 20; run++) {
            calls += new Run(run, told).play();
        }
        for (String name : CALLS) {
            if (told.getOrDefault(name, 0) < 50 && runs >= 1000) {
                wrong++;
                System.out.println(name + " was answered too seldom with a number from 0 on: " + told.get(name));
            }
        }
        System.out.println(wrong == 0 ? calls + " answers are as due" : wrong + " answers are not as due");
        if (wrong != 0) System.exit(1);
    }

    private static final String[] CALLS = {"kind", "link", "worth", "cut", "mend", "type", "chain", "count", "piece",
        "notch", "rate", "due", "pays", "far", "kept", "two", "most", "fewest", "handed", "late", "image", "restore",
        "seen", "film", "sheet", "drop", "item", "copy"};

    /** One object, one model, up to 512 calls on both. */
    private static final class Run {
        final int number;
        final Random random;
        final LinkDays x = new LinkDays();
        final Model m = new Model();
        final List<String> log = new ArrayList<>();
        final Map<String, Integer> told;
        boolean failed = false;

        Run(int number, Map<String, Integer> told) {
            this.number = number;
            this.random = new Random(7919L * number + 11);
            this.told = told;
        }

        int play() {
            int calls = 60 + random.nextInt(60);
            while (log.size() < calls && !failed) step();
            return log.size();
        }

        /** Mostly low to high, now and then just outside or far out. */
        int any(int low, int high) {
            int r = random.nextInt(40);
            if (r == 0) return low - 1;
            if (r == 1) return high + 1;
            if (r == 2) return new int[] {Integer.MIN_VALUE, Integer.MAX_VALUE, -1, 0, 1000, Integer.MAX_VALUE - 5}[random.nextInt(6)];
            return low + random.nextInt(Math.max(1, high - low + 1));
        }

        void due(String name, String call, int got, int want) {
            log.add(call + " = " + got);
            if (got >= 0) told.merge(name, 1, Integer::sum);
            if (got != want && !failed) {
                failed = true;
                wrong++;
                System.out.println("run " + number + ": " + call + " answered " + got + ", due is " + want + "; ahead of it: " + log);
            }
        }

        void step() {
            int r = random.nextInt(100);
            if (r < 22) change();
            else if (r < 32) text();
            else if (r < 45) look();
            else if (r < 75) reckon();
            else sheets();
        }

        void change() {
            int v, u;
            switch (random.nextInt(9)) {
                case 0: v = any(0, 3); due("kind", "kind(" + v + ")", x.kind(v), m.kind(v)); break;
                case 1: v = any(1, 9); due("link", "link(" + v + ")", x.link(v), m.link(v)); break;
                case 2: u = any(0, m.worths.size() - 1); v = any(1, 9); due("worth", "worth(" + u + ", " + v + ")", x.worth(u, v), m.worth(u, v)); break;
                case 3: case 4: case 5: v = any(0, m.worths.size() - 1); due("cut", "cut(" + v + ")", x.cut(v), m.cut(v)); break;
                case 6: v = m.cuts.isEmpty() || random.nextInt(3) == 0 ? any(0, 23) : m.cuts.first(); due("mend", "mend(" + v + ")", x.mend(v), m.mend(v)); break;
                case 7: u = any(0, 2); v = u == 0 ? random.nextInt(3) > 0 ? 1 + random.nextInt(2) : any(1, 9)
                        : random.nextInt(3) == 0 ? 0 : random.nextInt(8) == 0 ? any(0, 127) : 1 << random.nextInt(7) | 1 << random.nextInt(7);
                    due("rate", "rate(" + u + ", " + v + ")", x.rate(u, v), m.rate(u, v)); break;
                default:
                    if (random.nextInt(2) == 0) due("image", "image()", x.image(), m.image());
                    else due("restore", "restore()", x.restore(), m.restore());
            }
        }

        void text() {
            StringBuilder s = new StringBuilder();
            char kind = "orpb".charAt(random.nextInt(4));
            s.append(kind);
            int links = 1 + (random.nextInt(6) == 0 ? random.nextInt(26) : random.nextInt(14));
            int top = random.nextInt(3) == 0 ? 9 : 1 + random.nextInt(4);
            for (int i = 0; i < links; i++) s.append(1 + random.nextInt(top));
            int cuts = random.nextInt(7);
            if (random.nextInt(8) == 0) {
                s.setLength(0);
                s.append(manyPieces(top));
                kind = 'p';
                cuts = 0;
            }
            List<Integer> free = new ArrayList<>();
            for (int i = 0; i < (kind == 'o' || kind == 'r' ? links : links - 1); i++) free.add(i);
            for (int i = 0; i < cuts && !free.isEmpty(); i++) {
                s.append(i == 0 ? '/' : ',').append(free.remove(random.nextInt(free.size())));
            }
            while (random.nextInt(3) == 0) s.insert(random.nextInt(s.length() + 1), ' ');
            if (random.nextInt(3) == 0 && s.length() > 0) {
                int at = random.nextInt(s.length());
                switch (random.nextInt(3)) {
                    case 0: s.setCharAt(at, "orpbx0123456789/,,/ ~".charAt(random.nextInt(21))); break;
                    case 1: s.deleteCharAt(at); break;
                    default: s.insert(at, "orpb0123456789/,, ".charAt(random.nextInt(18)));
                }
            }
            type(s.toString());
            if (random.nextInt(20) == 0) {
                int n = any(1, 8);
                long w = random.nextLong();
                due("type", "type(" + w + ", " + n + ")", x.type(w, n), m.type(w, n));
            }
            if (random.nextInt(15) > 0) due("chain", "chain()", x.chain(), m.chain());
        }

        /** An open chain in eleven pieces, the most there can be. */
        String manyPieces(int top) {
            StringBuilder worths = new StringBuilder(), cuts = new StringBuilder();
            int links = 0;
            for (int i = 0; i < 6; i++) {
                int row = 1 + random.nextInt(3);
                for (int j = 0; j <= row; j++) worths.append(1 + random.nextInt(top));
                links += row;
                if (i < 5) cuts.append(i == 0 ? '/' : ',').append(links++);
            }
            worths.setLength(links);
            return "o" + worths + cuts;
        }

        void type(String s) {
            for (int i = 0; i < s.length(); i += 8) {
                String part = s.substring(i, Math.min(s.length(), i + 8));
                long w = part.length() < 8 ? random.nextLong() : 0;
                for (char c : part.toCharArray()) w = w << 8 | c;
                due("type", "type(" + w + "=" + part + ", " + part.length() + ")", x.type(w, part.length()), m.type(w, part.length()));
            }
        }

        void look() {
            int v = any(0, 5), u;
            due("count", "count(" + v + ")", x.count(v), m.count(v));
            u = any(0, m.pieces(m.cuts).size() - 1);
            v = any(0, 2);
            due("piece", "piece(" + u + ", " + v + ")", x.piece(u, v), m.piece(u, v));
            v = any(0, 4);
            due("notch", "notch(" + v + ")", x.notch(v), m.notch(v));
            v = any(1, 60);
            due("due", "due(" + v + ")", x.due(v), m.due(v));
            v = random.nextBoolean() ? any(0, 60) : any(0, 999);
            if (random.nextBoolean()) {
                v = random.nextInt(3) - 1;
                for (int[] p : m.pieces(m.cuts)) if (random.nextBoolean()) v += p[2];
            }
            due("pays", "pays(" + v + ")", x.pays(v), m.pays(v));
        }

        void reckon() {
            int far = m.far(), n, v;
            switch (random.nextInt(9)) {
                case 0: due("far", "far()", x.far(), far); break;
                case 1: due("kept", "kept()", x.kept(), m.kept()); break;
                case 2: v = random.nextBoolean() ? 1 : any(1, 9); due("two", "two(" + v + ")", x.two(v), m.two(v)); break;
                case 3: n = any(0, 4); v = any(-1, 3);
                    if (n == 4 && m.worths.size() > 12 && random.nextInt(10) > 0) n = 2;
                    due("most", "most(" + n + ", " + v + ")", x.most(n, v), m.most(n, v)); break;
                case 4: n = m.worths.size() > 12 && random.nextInt(10) > 0 ? any(0, 5) : any(0, 60);
                    due("fewest", "fewest(" + n + ")", x.fewest(n), m.fewest(n)); break;
                case 5: case 6: n = any(1, far + 1); v = random.nextInt(10) == 0 ? any(0, n) : n < 1 ? 0 : random.nextInt(Math.min(n, 60) + 1);
                    due("handed", "handed(" + n + ", " + v + ")", x.handed(n, v), m.handed(n, v));
                    if (n >= 1) due("handed", "handed(" + n + ", " + n + ")", x.handed(n, n), m.handed(n, n));
                    break;
                default: n = any(1, far + 1); v = any(-1, 4);
                    due("late", "late(" + n + ", " + v + ")", x.late(n, v), m.late(n, v));
            }
        }

        void sheets() {
            int s = any(0, 3), lane = any(0, 2), i, n, v, t;
            if (s >= 0 && s < 4 && m.sheets[s] != null && random.nextInt(6) > 0) lane = m.laneOf(s);
            int length = s >= 0 && s < 4 && m.sheets[s] != null ? m.length(s) : 5;
            switch (random.nextInt(9)) {
                case 0: n = random.nextInt(3) == 0 ? any(0, 24) : any(12, 24); due("sheet", "sheet(" + s + ", " + lane + ", " + n + ")", x.sheet(s, lane, n), m.sheet(s, lane, n)); break;
                case 1: if (random.nextInt(3) == 0) due("drop", "drop(" + s + ")", x.drop(s), m.drop(s)); break;
                case 2: case 3: i = any(0, length - 1);
                    long w = random.nextInt(3) == 0 ? random.nextLong() : any(1, 30);
                    due("item", "item(" + s + ", " + lane + ", " + i + ", " + w + ")", x.item(s, lane, i, w), m.item(s, lane, i, w)); break;
                case 4: t = any(0, 3); n = any(0, Math.max(0, length - 2)); i = any(0, Math.max(0, length - n)); v = any(0, 8);
                    if (random.nextInt(3) == 0) t = s;
                    due("copy", "copy(" + s + ", " + i + ", " + t + ", " + v + ", " + n + ")", x.copy(s, i, t, v, n), m.copy(s, i, t, v, n)); break;
                case 5: i = any(0, length - 3); due("film", "film(" + s + ", " + lane + ", " + i + ")", x.film(s, lane, i), m.film(s, lane, i)); break;
                default: filmAndSee(s, lane);
            }
            showSheet(s);
        }

        /** There is no call that answers an item: pieces of worths seen tell what the items are. */
        void showSheet(int s) {
            if (s < 0 || s > 3 || m.sheets[s] == null || m.length(s) == 0) return;
            int i = random.nextInt(m.length(s)), lane = m.laneOf(s);
            due("seen", "seen(1, " + s + ", " + lane + ", " + i + ", 1, -1)", x.seen(1, s, lane, i, 1, -1), m.seen(1, s, lane, i, 1, -1));
        }

        void filmAndSee(int s, int lane) {
            List<int[]> row = m.pieces(new TreeSet<>(m.someNotches(random.nextInt(4), random)));
            int n = Math.min(8, 1 + random.nextInt(row.size()));
            int i = any(0, 3);
            for (int p = 0; p < n; p++) {
                int at = i + p, worth = row.get(random.nextInt(5) > 0 ? p : random.nextInt(row.size()))[2];
                if (at < 0) continue;
                due("item", "item(" + s + ", " + lane + ", " + at + ", " + worth + ")", x.item(s, lane, at, worth), m.item(s, lane, at, worth));
            }
            if (random.nextInt(20) == 0) n = any(1, 8);
            int k = any(0, 3), j = any(-1, 2);
            if (k == 3 && m.worths.size() > 14 && random.nextInt(4) > 0) k = 2;
            due("seen", "seen(" + k + ", " + s + ", " + lane + ", " + i + ", " + n + ", -1)", x.seen(k, s, lane, i, n, -1), m.seen(k, s, lane, i, n, -1));
            due("seen", "seen(" + k + ", " + s + ", " + lane + ", " + i + ", " + n + ", " + j + ")", x.seen(k, s, lane, i, n, j), m.seen(k, s, lane, i, n, j));
        }
    }

    /** The document, word by word, with no thought of speed. */
    private static final class Model {
        int kind = 0;
        List<Integer> worths = new ArrayList<>(List.of(1));
        TreeSet<Integer> cuts = new TreeSet<>();
        int rate = 1, off = 0, twice = 0;
        String tape = "";
        final Object[] sheets = new Object[4];
        Object[] image = null;

        static boolean in(int v, int low, int high) { return v >= low && v <= high; }

        int notches() { return kind < 2 ? worths.size() : worths.size() - 1; }

        int kind(int v) {
            if (!in(v, 0, 3)) return BAD;
            int was = kind;
            kind = v;
            cuts.clear();
            return was;
        }

        int link(int worth) {
            if (!in(worth, 1, 9)) return BAD;
            if (worths.size() == 24) return FULL;
            worths.add(worth);
            return worths.size();
        }

        int worth(int link, int v) {
            if (!in(link, 0, worths.size() - 1) || !in(v, 1, 9)) return BAD;
            return worths.set(link, v);
        }

        int cut(int notch) {
            if (!in(notch, 0, notches() - 1)) return BAD;
            if (cuts.contains(notch)) return NOT;
            if (cuts.size() == 5) return FULL;
            cuts.add(notch);
            return cuts.size();
        }

        int mend(int notch) {
            if (!in(notch, 0, notches() - 1)) return BAD;
            if (!cuts.remove(notch)) return NOT;
            return cuts.size();
        }

        int type(long w, int n) {
            if (!in(n, 1, 8)) return BAD;
            String s = "";
            for (int i = n - 1; i >= 0; i--) {
                int b = (int) (w >> 8 * i) & 255;
                if (!in(b, 32, 126)) return BAD;
                s += (char) b;
            }
            if (tape.length() + n > 60) return FULL;
            tape += s;
            return tape.length();
        }

        /** A table of states: 0 kind, 1 first worth, 2 worths, 3 number must come, 4 behind a number. */
        int chain() {
            String s = tape;
            tape = "";
            int state = 0, newKind = 0;
            List<Integer> w = new ArrayList<>();
            TreeSet<Integer> c = new TreeSet<>();
            int i = 0;
            while (i < s.length()) {
                char b = s.charAt(i);
                if (b == ' ') { i++; continue; }
                if (state == 0 && "orpb".indexOf(b) >= 0) { newKind = "orpb".indexOf(b); state = 1; i++; }
                else if ((state == 1 || state == 2) && b >= '1' && b <= '9' && w.size() < 24) { w.add(b - '0'); state = 2; i++; }
                else if (state == 2 && b == '/') { state = 3; i++; }
                else if (state == 4 && b == ',' && c.size() < 5) { state = 3; i++; }
                else if (state == 3 && Character.isDigit(b)) {
                    int end = i;
                    while (end < s.length() && Character.isDigit(s.charAt(end))) end++;
                    java.math.BigInteger v = new java.math.BigInteger(s.substring(i, end));
                    int limit = newKind < 2 ? w.size() : w.size() - 1;
                    if (v.compareTo(java.math.BigInteger.valueOf(limit)) >= 0 || !c.add(v.intValue())) return -20 - i;
                    state = 4;
                    i = end;
                } else return -20 - i;
            }
            if (state != 2 && state != 4) return -20 - s.length();
            kind = newKind;
            worths = w;
            cuts = c;
            return w.size();
        }

        int count(int what) {
            int all = 0;
            for (int[] p : pieces(cuts)) all += p[2];
            return what == 0 ? worths.size() : what == 1 ? notches() : what == 2 ? cuts.size()
                : what == 3 ? pieces(cuts).size() : what == 4 ? all : what == 5 ? kind : BAD;
        }

        /** Whether a link hangs together with the one behind it. */
        boolean joined(int link, Set<Integer> by) {
            int n = worths.size();
            if (link == n - 1 && kind != 1) return false;
            if (kind >= 2) return !by.contains(link);
            return !by.contains(link) && !by.contains((link + 1) % n);
        }

        /** First link, how many, worth; by first links. */
        List<int[]> pieces(Set<Integer> by) {
            int n = worths.size();
            List<int[]> all = new ArrayList<>();
            if (kind == 1 && by.isEmpty()) {
                all.add(new int[] {0, n, worths.stream().mapToInt(w -> w).sum()});
                return all;
            }
            for (int first = 0; first < n; first++) {
                if (joined((first + n - 1) % n, by)) continue;
                int size = 0, worth = 0, at = first;
                while (true) {
                    size++;
                    worth += kind == 3 && by.contains(at) ? Math.max(1, worths.get(at) - 1) : worths.get(at);
                    if (!joined(at, by)) break;
                    at = (at + 1) % n;
                }
                all.add(new int[] {first, size, worth});
            }
            return all;
        }

        int piece(int i, int what) {
            List<int[]> all = pieces(cuts);
            return in(i, 0, all.size() - 1) && in(what, 0, 2) ? all.get(i)[what] : BAD;
        }

        int notch(int i) {
            return in(i, 0, cuts.size() - 1) ? new ArrayList<>(cuts).get(i) : BAD;
        }

        int rate(int what, int v) {
            int was = what == 0 ? rate : what == 1 ? off : twice;
            if (what == 0 && in(v, 1, 9)) rate = v;
            else if (what == 1 && in(v, 0, 127)) off = v;
            else if (what == 2 && in(v, 0, 127)) twice = v;
            else return BAD;
            return was;
        }

        int due(int day) {
            if (!in(day, 1, 60)) return BAD;
            int all = 0;
            for (int d = 0; d < day; d++) {
                if ((off >> d % 7) % 2 == 1) continue;
                all += (twice >> d % 7) % 2 == 1 ? 2 * rate : rate;
            }
            return all;
        }

        boolean[] paid(Set<Integer> by) {
            boolean[] paid = new boolean[2000];
            paid[0] = true;
            for (int[] p : pieces(by)) {
                for (int s = 1999; s >= p[2]; s--) paid[s] |= paid[s - p[2]];
            }
            return paid;
        }

        int pays(int sum) {
            return in(sum, 0, 999) ? paid(cuts)[sum] ? 1 : 0 : BAD;
        }

        int far() { return far(cuts); }

        int far(Set<Integer> by) {
            boolean[] paid = paid(by);
            int day = 0, all = 0;
            while (day < 60) {
                if ((off >> day % 7) % 2 == 0) all += (twice >> day % 7) % 2 == 1 ? 2 * rate : rate;
                if (!paid[all]) return day;
                day++;
            }
            return day;
        }

        int[] setWorths() {
            List<int[]> all = pieces(cuts);
            int[] worth = new int[1 << all.size()];
            for (int set = 0; set < worth.length; set++) {
                for (int i = 0; i < all.size(); i++) if ((set >> i) % 2 == 1) worth[set] += all.get(i)[2];
            }
            return worth;
        }

        int kept() {
            int[] worth = setWorths();
            Set<Integer> lies = new HashSet<>(Set.of(0));
            for (int day = 1; day <= 60; day++) {
                Set<Integer> next = new HashSet<>();
                int due = due(day);
                for (int set = 0; set < worth.length; set++) {
                    if (worth[set] != due) continue;
                    for (int old : lies) if ((old & set) == old) { next.add(set); break; }
                }
                if (next.isEmpty()) return day - 1;
                lies = next;
            }
            return 60;
        }

        int two(int second) {
            if (!in(second, 1, 9)) return BAD;
            Set<Integer> pairs = new HashSet<>(Set.of(0));
            for (int[] p : pieces(cuts)) {
                Set<Integer> more = new HashSet<>(pairs);
                for (int v : pairs) { more.add(v + p[2]); more.add(v + 10000 * p[2]); }
                pairs = more;
            }
            for (int day = 1; day <= 60; day++) if (!pairs.contains(due(day) + 10000 * day * second)) return day - 1;
            return 60;
        }

        void choices(int k, int from, List<Integer> row, List<List<Integer>> all) {
            if (row.size() == k) { all.add(new ArrayList<>(row)); return; }
            for (int i = from; i < notches(); i++) {
                row.add(i);
                choices(k, i + 1, row, all);
                row.remove(row.size() - 1);
            }
        }

        List<List<Integer>> choices(int k) {
            List<List<Integer>> all = new ArrayList<>();
            choices(k, 0, new ArrayList<>(), all);
            return all;
        }

        List<Integer> someNotches(int k, Random random) {
            TreeSet<Integer> some = new TreeSet<>();
            for (int i = 0; i < k && notches() > 0; i++) some.add(random.nextInt(notches()));
            return new ArrayList<>(some);
        }

        int most(int k, int i) {
            if (!in(k, 0, 4) || !in(i, -1, 3)) return BAD;
            int most = -1;
            List<Integer> first = null;
            for (List<Integer> c : choices(k)) {
                int far = far(new HashSet<>(c));
                if (far > most) { most = far; first = c; }
            }
            if (first == null || i >= k) return NONE;
            return i == -1 ? most : first.get(i);
        }

        int fewest(int n) {
            if (!in(n, 0, 60)) return BAD;
            for (int k = 0; k <= 4; k++) {
                for (List<Integer> c : choices(k)) if (far(new HashSet<>(c)) >= n) return k;
            }
            return NONE;
        }

        int handed(int n, int day) {
            if (!in(n, 1, 60) || !in(day, 0, n)) return BAD;
            if (far() < n) return NOT;
            int[] worth = setWorths();
            List<List<Integer>> can = new ArrayList<>();
            double rows = 1;
            for (int d = 1; d <= n; d++) {
                List<Integer> sets = new ArrayList<>();
                int due = due(d);
                for (int set = 0; set < worth.length; set++) if (worth[set] == due) sets.add(set);
                can.add(sets);
                rows *= sets.size();
            }
            int[] row = rows <= 20000 ? allRows(can) : rowsFromBehind(can);
            return day == 0 ? row[n] : row[day - 1];
        }

        /** The row of sets, and behind it how many are handed: each row is tried. */
        int[] allRows(List<List<Integer>> can) {
            int n = can.size();
            int[] best = null, at = new int[n];
            while (true) {
                int[] row = new int[n + 1];
                int old = 0;
                for (int d = 0; d < n; d++) {
                    row[d] = can.get(d).get(at[d]);
                    row[n] += Integer.bitCount(old ^ row[d]);
                    old = row[d];
                }
                if (best == null || row[n] < best[n]) best = row;
                int d = n - 1;
                while (d >= 0 && at[d] == can.get(d).size() - 1) at[d--] = 0;
                if (d < 0) return best;
                at[d]++;
            }
        }

        int[] rowsFromBehind(List<List<Integer>> can) {
            int n = can.size();
            List<Map<Integer, Integer>> rest = new ArrayList<>();
            for (int d = 0; d < n; d++) rest.add(new HashMap<>());
            for (int d = n - 1; d >= 0; d--) {
                for (int set : can.get(d)) {
                    int least = d == n - 1 ? 0 : 1 << 30;
                    if (d < n - 1) for (int next : can.get(d + 1)) least = Math.min(least, Integer.bitCount(set ^ next) + rest.get(d + 1).get(next));
                    rest.get(d).put(set, least);
                }
            }
            int[] row = new int[n + 1];
            int old = 0;
            for (int d = 0; d < n; d++) {
                int least = 1 << 30;
                for (int set : can.get(d)) {
                    int all = Integer.bitCount(old ^ set) + rest.get(d).get(set);
                    if (all < least) { least = all; row[d] = set; }
                }
                if (d == 0) row[n] = least;
                old = row[d];
            }
            return row;
        }

        int late(int n, int i) {
            if (!in(n, 1, 60) || !in(i, -1, 4)) return BAD;
            if (far() < n) return NOT;
            if (i >= cuts.size()) return NONE;
            List<Integer> all = new ArrayList<>(cuts);
            int parts = 1 << all.size();
            boolean[][] can = new boolean[parts][n + 1];
            for (int part = 0; part < parts; part++) {
                Set<Integer> made = new HashSet<>();
                for (int c = 0; c < all.size(); c++) if ((part >> c) % 2 == 1) made.add(all.get(c));
                boolean[] paid = paid(made);
                for (int d = 1; d <= n; d++) can[part][d] = paid[due(d)];
            }
            int[] row = Math.pow(n, all.size()) <= 40000 ? allDays(can, all.size(), n) : daysFromBehind(can, all.size(), n);
            int sum = 0;
            for (int d : row) sum += d;
            return i == -1 ? sum : row[i];
        }

        /** Each row of days is tried. */
        int[] allDays(boolean[][] can, int k, int n) {
            int[] row = new int[k], best = null;
            Arrays.fill(row, 1);
            int most = -1;
            while (true) {
                boolean good = true;
                for (int d = 1; d <= n && good; d++) {
                    int part = 0;
                    for (int c = 0; c < k; c++) if (row[c] <= d) part |= 1 << c;
                    good = can[part][d];
                }
                int sum = Arrays.stream(row).sum();
                if (good && sum > most) { most = sum; best = row.clone(); }
                int c = k - 1;
                while (c >= 0 && row[c] == n) row[c--] = 1;
                if (c < 0) return best;
                row[c]++;
            }
        }

        /** From the last day back: by parts that are made, the best days of those that are not. */
        int[] daysFromBehind(boolean[][] can, int k, int n) {
            int parts = 1 << k;
            int[][] best = new int[parts][];
            best[parts - 1] = new int[k];
            for (int d = n; d >= 1; d--) {
                int[][] now = new int[parts][];
                for (int old = 0; old < parts; old++) {
                    for (int part = old; part < parts; part++) {
                        if ((part & old) != old || !can[part][d] || best[part] == null) continue;
                        int[] row = best[part].clone();
                        for (int c = 0; c < k; c++) if ((part & ~old) >> c == ((part & ~old) >> c | 1)) row[c] = d;
                        if (now[old] == null || better(row, now[old])) now[old] = row;
                    }
                }
                best = now;
            }
            return best[0];
        }

        static boolean better(int[] row, int[] than) {
            int a = Arrays.stream(row).sum(), b = Arrays.stream(than).sum();
            return a != b ? a > b : Arrays.compare(row, than) < 0;
        }

        int image() {
            image = new Object[] {kind, new ArrayList<>(worths), new TreeSet<>(cuts), rate, off, twice};
            return 1;
        }

        @SuppressWarnings("unchecked")
        int restore() {
            if (image == null) return NONE;
            kind = (Integer) image[0];
            worths = new ArrayList<>((List<Integer>) image[1]);
            cuts = new TreeSet<>((Set<Integer>) image[2]);
            rate = (Integer) image[3];
            off = (Integer) image[4];
            twice = (Integer) image[5];
            return 1;
        }

        int laneOf(int s) { return sheets[s] instanceof byte[] ? 0 : sheets[s] instanceof int[] ? 1 : 2; }

        int length(int s) { return java.lang.reflect.Array.getLength(sheets[s]); }

        long get(int s, int i) {
            return sheets[s] instanceof byte[] b ? b[i] : sheets[s] instanceof int[] n ? n[i] : ((long[]) sheets[s])[i];
        }

        void put(int s, int i, long v) {
            if (sheets[s] instanceof byte[] b) b[i] = (byte) v;
            else if (sheets[s] instanceof int[] n) n[i] = (int) v;
            else ((long[]) sheets[s])[i] = v;
        }

        /** BAD, NULL, CAST, INDEX, or 0. */
        int refused(int s, int lane, long i, long n) {
            if (!in(s, 0, 3) || !in(lane, 0, 2)) return BAD;
            if (sheets[s] == null) return NULL;
            if (laneOf(s) != lane) return CAST;
            return i < 0 || n < 0 || i + n > length(s) ? INDEX : 0;
        }

        int seen(int k, int s, int lane, int i, int n, int j) {
            if (!in(k, 0, 3) || !in(n, 1, 8) || !in(j, -1, 2)) return BAD;
            int refused = refused(s, lane, i, n);
            if (refused != 0) return refused;
            Map<Integer, Integer> wanted = new HashMap<>();
            for (int p = 0; p < n; p++) {
                long v = get(s, i + p);
                if (v < 1 || v > 999) return NOT;
                wanted.merge((int) v, 1, Integer::sum);
            }
            List<List<Integer>> found = new ArrayList<>();
            for (List<Integer> c : choices(k)) {
                Map<Integer, Integer> has = new HashMap<>();
                for (int[] p : pieces(new HashSet<>(c))) has.merge(p[2], 1, Integer::sum);
                boolean all = true;
                for (int w : wanted.keySet()) all &= has.getOrDefault(w, 0) >= wanted.get(w);
                if (all) found.add(c);
            }
            if (j == -1) return found.size();
            return found.isEmpty() || j >= k ? NONE : found.get(0).get(j);
        }

        int film(int s, int lane, int i) {
            List<int[]> all = pieces(cuts);
            int refused = refused(s, lane, i, all.size());
            if (refused != 0) return refused;
            for (int p = 0; p < all.size(); p++) put(s, i + p, all.get(p)[2]);
            return all.size();
        }

        int sheet(int s, int lane, int n) {
            if (!in(s, 0, 3) || !in(lane, 0, 2) || n > 24) return BAD;
            if (n < 0) return SIZE;
            sheets[s] = lane == 0 ? new byte[n] : lane == 1 ? new int[n] : new long[n];
            return n;
        }

        int drop(int s) {
            if (!in(s, 0, 3)) return BAD;
            if (sheets[s] == null) return NULL;
            int had = length(s);
            sheets[s] = null;
            return had;
        }

        int item(int s, int lane, int i, long v) {
            int refused = refused(s, lane, i, 1);
            if (refused != 0) return refused;
            put(s, i, v);
            return 1;
        }

        int copy(int from, int i, int to, int j, int n) {
            if (!in(from, 0, 3) || !in(to, 0, 3)) return BAD;
            if (sheets[from] == null || sheets[to] == null) return NULL;
            if (laneOf(from) != laneOf(to)) return CAST;
            try {
                System.arraycopy(sheets[from], i, sheets[to], j, n);
            } catch (IndexOutOfBoundsException e) {
                return INDEX;
            }
            return n;
        }
    }
}
