import java.lang.management.ManagementFactory;
import java.lang.reflect.Constructor;
import java.lang.reflect.Field;
import java.lang.reflect.Method;
import java.lang.reflect.Modifier;
import java.nio.file.Files;
import java.nio.file.Path;
import java.util.ArrayList;
import java.util.Arrays;
import java.util.List;
import java.util.Random;
import java.util.Set;
import java.util.TreeSet;
import java.util.regex.Matcher;
import java.util.regex.Pattern;

/** The face, the rules that can be looked up in the source, what calls make, and that none throws. */
public final class LinkDaysRules {
    private static int wrong = 0;

    private static final String[] FACE = {"kind(int)", "link(int)", "worth(int,int)", "cut(int)", "mend(int)",
        "type(long,int)", "chain()", "count(int)", "piece(int,int)", "notch(int)", "rate(int,int)", "due(int)",
        "pays(int)", "far()", "kept()", "two(int)", "most(int,int)", "fewest(int)", "handed(int,int)", "late(int,int)",
        "image()", "restore()", "seen(int,int,int,int,int,int)", "film(int,int,int)", "sheet(int,int,int)", "drop(int)",
        "item(int,int,int,long)", "copy(int,int,int,int,int)"};

    private static void check(boolean good, String what) {
        if (!good) {
            wrong++;
            System.out.println(what);
        }
    }

    public static void main(String[] args) throws Exception {
        face();
        privateNames();
        source();
        room();
        throwsNothing();
        System.out.println(wrong == 0 ? "all rules are kept" : wrong + " rules are not kept");
        if (wrong != 0) System.exit(1);
    }

    private static String sign(Method m) {
        List<String> types = new ArrayList<>();
        for (Class<?> c : m.getParameterTypes()) types.add(c.getName());
        return m.getName() + "(" + String.join(",", types) + ")";
    }

    private static void face() {
        check(Modifier.isPublic(LinkDays.class.getModifiers()) && Modifier.isFinal(LinkDays.class.getModifiers()), "the class is public and final");
        Set<String> found = new TreeSet<>();
        for (Method m : LinkDays.class.getDeclaredMethods()) {
            if (m.isSynthetic()) continue;
            if (Modifier.isPublic(m.getModifiers())) {
                found.add(sign(m));
                check(m.getReturnType() == int.class && !Modifier.isStatic(m.getModifiers()), sign(m) + " answers an int of an object");
            } else check(Modifier.isPrivate(m.getModifiers()), sign(m) + " is neither public nor private");
        }
        check(found.equals(new TreeSet<>(Arrays.asList(FACE))), "the face has " + found);
        Set<String> constants = new TreeSet<>();
        for (Field f : LinkDays.class.getDeclaredFields()) {
            if (f.isSynthetic()) continue;
            if (Modifier.isPublic(f.getModifiers())) constants.add(f.getName());
            else check(Modifier.isPrivate(f.getModifiers()), f.getName() + " is neither public nor private");
            check(!Modifier.isStatic(f.getModifiers()) || Modifier.isFinal(f.getModifiers()), f.getName() + " is static and not final");
        }
        check(constants.equals(new TreeSet<>(List.of("BAD", "NOT", "FULL", "NONE", "NULL", "CAST", "INDEX", "SIZE"))), "constants " + constants);
        Constructor<?>[] made = LinkDays.class.getDeclaredConstructors();
        check(made.length == 1 && made[0].getParameterCount() == 0 && Modifier.isPublic(made[0].getModifiers()), "one public constructor");
    }

    private static void privateNames() {
        Set<String> names = new TreeSet<>();
        for (String s : FACE) names.add(s.substring(0, s.indexOf('(')));
        List<Class<?>> all = new ArrayList<>(List.of(LinkDays.class));
        all.addAll(Arrays.asList(LinkDays.class.getDeclaredClasses()));
        check(all.size() <= 12, "classes: " + all.size());
        for (Class<?> c : all) {
            int fields = 0;
            for (Field f : c.getDeclaredFields()) if (!Modifier.isStatic(f.getModifiers())) fields++;
            check(fields <= 20, c + " has " + fields + " fields");
            for (Method m : c.getDeclaredMethods()) {
                check(m.getParameterCount() <= 7, sign(m) + " takes too much");
                if (c != LinkDays.class || !Modifier.isPublic(m.getModifiers())) check(!names.contains(m.getName()), c + " has a method of the name " + m.getName());
            }
            if (c != LinkDays.class) check(Modifier.isStatic(c.getModifiers()) && !Modifier.isPublic(c.getModifiers()) && !Modifier.isProtected(c.getModifiers()), c + " is static, private or package-visible");
        }
    }

    private static void source() throws Exception {
        String path = System.getProperty("linkdays.source", "src/main/java/LinkDays.java");
        String text = Files.readString(Path.of(path));
        String bare = text.replaceAll("(?s)/\\*.*?\\*/", " ").replaceAll("//[^\\n]*", " ").replaceAll("\"[^\"\\n]*\"", "\"\"");
        for (String word : new String[] {"package", "import", "try", "catch", "throw", "throws", "finally", "synchronized", "assert",
            "double", "float", "Object", "Arrays", "HashMap", "Random", "Thread", "hashCode", "toString", "native", "volatile"}) {
            check(!Pattern.compile("\\b" + word + "\\b").matcher(bare).find(), "the source has the word " + word);
        }
        check(!bare.contains("->") && !bare.contains("::"), "no lambda, no method reference");
        check(!Pattern.compile("static\\s*\\{").matcher(bare).find(), "no static initialiser");
        Matcher library = Pattern.compile("\\b(System|Integer|Long|Math)\\.(\\w+)").matcher(bare);
        Set<String> fine = Set.of("System.arraycopy", "Integer.bitCount", "Integer.MAX_VALUE", "Math.max", "Math.min");
        while (library.find()) check(fine.contains(library.group()), "the library's " + library.group());
        for (char c : text.toCharArray()) if (c > 126) check(false, "a sign above 126");
        int length = 0;
        for (String line : text.split("\n")) {
            length = line.isBlank() ? 0 : length + 1;
            check(length <= 60, "sixty lines without a blank one at: " + line);
        }
    }

    /** What calls make is counted: an object makes its rows at once, and its calls nothing. */
    private static void room() {
        com.sun.management.ThreadMXBean threads = (com.sun.management.ThreadMXBean) ManagementFactory.getThreadMXBean();
        long id = Thread.currentThread().getId();
        int answers = dearCalls(new LinkDays());
        long start = threads.getThreadAllocatedBytes(id);
        LinkDays x = new LinkDays();
        long made = threads.getThreadAllocatedBytes(id) - start;
        start = threads.getThreadAllocatedBytes(id);
        for (int i = 0; i < 10; i++) answers += dearCalls(x);
        long more = threads.getThreadAllocatedBytes(id) - start;
        check(made < 100000, "an object takes " + made + " bytes");
        check(more < 5000, "its calls take " + more + " bytes");
        check(answers != 0, "calls were made");
    }

    private static int dearCalls(LinkDays x) {
        int answers = x.kind(0);
        for (int i = 0; i < 24; i++) answers += x.link(1 + i % 3) + x.worth(i, 9);
        for (int i = 0; i < 5; i++) answers += x.cut(1 + 2 * i);
        for (int k = 0; k < 5; k++) answers += x.most(k, -1) + x.fewest(k + 1);
        for (int i = 0; i < 20; i++) answers += x.worth(i, 1);
        answers += x.far() + x.kept() + x.two(1) + x.pays(7) + x.handed(11, 0) + x.handed(11, 11) + x.late(11, -1) + x.late(11, 4);
        answers += x.sheet(0, 1, 24) + x.film(0, 1, 0) + x.seen(3, 0, 1, 0, 3, -1) + x.copy(0, 0, 0, 1, 20) + x.drop(0);
        answers += x.image() + x.restore() + x.type(0x6F3131312F30L, 6) + x.chain() + x.count(3) + x.piece(1, 2) + x.notch(0);
        return answers;
    }

    private static final int[] ODD = {Integer.MIN_VALUE, Integer.MIN_VALUE + 1, -65, -2, -1, 0, 1, 2, 3, 4, 5, 7, 8, 9, 10,
        23, 24, 25, 31, 32, 59, 60, 61, 63, 64, 127, 128, 216, 217, 999, 1000, 1 << 16, Integer.MAX_VALUE - 1, Integer.MAX_VALUE};

    private static void throwsNothing() throws Exception {
        Random random = new Random(5);
        List<Method> face = new ArrayList<>();
        for (Method m : LinkDays.class.getDeclaredMethods()) if (Modifier.isPublic(m.getModifiers())) face.add(m);
        face.sort((a, b) -> sign(a).compareTo(sign(b)));
        for (int run = 0; run < 2000 && wrong < 20; run++) {
            LinkDays x = new LinkDays();
            for (int call = 0; call < 200 && wrong < 20; call++) {
                Method m = face.get(random.nextInt(face.size()));
                Object[] with = new Object[m.getParameterCount()];
                for (int i = 0; i < with.length; i++) {
                    int v = random.nextInt(3) == 0 ? ODD[random.nextInt(ODD.length)] : random.nextInt(10);
                    if (m.getParameterTypes()[i] == long.class) with[i] = random.nextBoolean() ? (long) v : random.nextLong();
                    else with[i] = v;
                }
                try {
                    m.invoke(x, with);
                } catch (java.lang.reflect.InvocationTargetException e) {
                    check(false, sign(m) + " of " + Arrays.toString(with) + " threw " + e.getCause());
                }
            }
        }
    }
}
