import java.io.IOException;
import java.lang.management.ManagementFactory;
import java.lang.reflect.Constructor;
import java.lang.reflect.Field;
import java.lang.reflect.Method;
import java.lang.reflect.Modifier;
import java.nio.charset.StandardCharsets;
import java.nio.file.Files;
import java.nio.file.Paths;
import java.util.Set;
import java.util.TreeSet;
import java.util.regex.Matcher;
import java.util.regex.Pattern;

/** The face as the document has it, what LANGUAGE.md leaves of Java as far as a look at the text tells, and what calls make. */
public final class LanguageTest {
    private static final String SOURCE = "src/main/java/StyliteOverheard.java";
    private static final String FACE = "stall(int,int) stalls(int,int,int) school(int) mend(int,int,int) of(int,int) feed(int) "
        + "law() thing(int) hours(int,int,int) often(int,int,int,int) round(int) make(int,int) recite(int,int) waysTo(int):long "
        + "most(int,int,int) quiet(int,int) tellsMost(int,int) sold(int,int,int) places(int,int) best(int,int) "
        + "when(int,int,int) verdict(int,int) clash(int,int) judge(int,int) read(int,int) drawn(int,int,int,int) hour(int) "
        + "fed(int) led(int) image() back() undo() redo() body(int) act(int,int,int) trace(int) keep(int,int) "
        + "row(int,int,int) put(int,int,long) element(int,int):long shift(int,int,int,int,int) taken(int,int) count(int)";

    private static int wrong;

    public static void main(String[] args) throws IOException {
        Watch.begin("LanguageTest");
        face();
        String text = new String(Files.readAllBytes(Paths.get(SOURCE)), StandardCharsets.ISO_8859_1);
        words(bare(text));
        methods(bare(text));
        loops(bare(text));
        divisors(bare(text));
        made();
        System.out.println(wrong == 0 ? "LanguageTest: all as it should be" : "LanguageTest: " + wrong + " faults");
        if (wrong > 0) {
            System.exit(1);
        }
    }

    private static void fault(boolean is, String what) {
        if (is) {
            wrong++;
            System.out.println(what);
        }
    }

    // ---- rule 1

    private static void face() {
        Class<?> c = StyliteOverheard.class;
        fault(!Modifier.isPublic(c.getModifiers()) || !Modifier.isFinal(c.getModifiers()), "the class is public and final");
        Set<String> due = new TreeSet<>(Set.of(FACE.split(" ")));
        Set<String> is = new TreeSet<>();
        for (Method m : c.getDeclaredMethods()) {
            if (Modifier.isPublic(m.getModifiers())) {
                is.add(shape(m));
                fault(Modifier.isStatic(m.getModifiers()), m + " is no static method");
            } else {
                fault(!Modifier.isPrivate(m.getModifiers()), m + " is private");
            }
        }
        fault(!is.equals(due), "the face is " + is + ", due is " + due);
        Set<String> constants = new TreeSet<>();
        for (Field f : c.getDeclaredFields()) {
            if (Modifier.isPublic(f.getModifiers())) {
                constants.add(f.getName());
                fault(f.getType() != int.class || !Modifier.isFinal(f.getModifiers()), f + " is a constant");
            } else {
                fault(!Modifier.isPrivate(f.getModifiers()), f + " is private");
            }
        }
        fault(!constants.equals(Set.of("BAD", "NOT", "FULL", "STATE", "VOID")), "the constants are " + constants);
        Constructor<?>[] all = c.getDeclaredConstructors();
        fault(all.length != 1 || all[0].getParameterCount() != 0, "one constructor");
        int classes = 1;
        for (Class<?> inner : c.getDeclaredClasses()) {
            classes++;
            fault(!Modifier.isStatic(inner.getModifiers()) || Modifier.isPublic(inner.getModifiers())
                || Modifier.isProtected(inner.getModifiers()), inner + " is static, and private or package-visible");
            namesOf(inner, is);
        }
        fault(classes > 12, "some twelve classes");
    }

    private static void namesOf(Class<?> inner, Set<String> face) {
        int fields = 0;
        for (Field f : inner.getDeclaredFields()) {
            fields += Modifier.isStatic(f.getModifiers()) ? 0 : 1;
            fault(Modifier.isStatic(f.getModifiers()) && !Modifier.isFinal(f.getModifiers()), f + " is final");
        }
        fault(fields > 20, inner + " has some twenty fields");
        for (Method m : inner.getDeclaredMethods()) {
            for (String faced : face) {
                boolean same = faced.startsWith(m.getName() + "(");
                fault(same && Modifier.isPrivate(m.getModifiers()), m + " bears the name of a public one");
            }
            fault(m.getParameterCount() > 7, m + " takes at most seven");
        }
    }

    private static String shape(Method m) {
        StringBuilder all = new StringBuilder(m.getName()).append('(');
        for (Class<?> type : m.getParameterTypes()) {
            all.append(all.charAt(all.length() - 1) == '(' ? "" : ",").append(type.getName());
        }
        return all.append(')').append(m.getReturnType() == int.class ? "" : ":" + m.getReturnType().getName()).toString();
    }

    // ---- the text

    /** Without comments, and with every literal of signs as 'x'. */
    private static String bare(String text) {
        for (int i = 0; i < text.length(); i++) {
            fault(text.charAt(i) > 126, "a sign beyond 126 at " + i);
        }
        return text.replaceAll("(?s)/\\*.*?\\*/", "").replaceAll("//[^\n]*", "").replaceAll("'\\\\?.'", "'x'");
    }

    private static void words(String text) {
        String[] none = {"import", "package", "throw", "throws", "try", "catch", "finally", "synchronized", "assert", "yield",
            "var", "double", "float", "Object", "volatile", "native", "transient", "strictfp", "enum", "record", "protected",
            "equals", "hashCode", "toString"};
        for (String word : none) {
            fault(Pattern.compile("\\b" + word + "\\b").matcher(text).find(), "the text has " + word);
        }
        fault(text.contains("->") || text.contains("::") || text.contains("\""), "no lambda, method reference or string");
        fault(text.contains("@"), "no annotation");
        Matcher library = Pattern.compile("\\b([A-Z][a-zA-Z]+)\\.(\\w+)").matcher(text);
        Set<String> known = Set.of("System.arraycopy", "Math.min", "Math.max", "Integer.bitCount", "Long.MIN_VALUE");
        while (library.find()) {
            boolean own = text.contains("class " + library.group(1) + " ");
            fault(!own && !known.contains(library.group()), "the library's " + library.group());
        }
        Matcher fields = Pattern.compile("\\bstatic (?!final|class)[^({]*;").matcher(text);
        fault(fields.find(), "static fields are final");
        Matcher rows = Pattern.compile("\\bstatic final \\w+\\[\\] (\\w+) = (\\S)").matcher(text);
        while (rows.find()) {
            fault(!rows.group(2).equals("{"), rows.group(1) + " is written out");
            fault(text.contains(rows.group(1) + "["), rows.group(1) + " is read by at() alone, so never changed");
        }
    }

    /** The end of a loop is seen from its own line: a counter against a bound. */
    private static void loops(String text) {
        Matcher heads = Pattern.compile("(?m)^ *(?:\\} )?(for|while) \\((.*)\\) ?[{;]$").matcher(text);
        int count = 0;
        while (heads.find()) {
            fault(!heads.group(2).matches(".*[<>].*"), "the loop " + heads.group().trim() + " has a bound");
            count++;
        }
        int all = text.split("\\b(for|while) \\(", -1).length - 1;
        fault(count != all || all < 50, "all loops are found: " + count + " of " + all);
        fault(Pattern.compile("\\bdo\\b").matcher(text).find(), "no loop whose bound stands behind it");
    }

    /** What divides is a number that is told and not 0, or is looked at in the same line. */
    private static void divisors(String text) {
        Pattern sign = Pattern.compile(" [/%]=? (\\(?\\w+)");
        int count = 0;
        for (String line : text.split("\n")) {
            Matcher signs = sign.matcher(line);
            while (signs.find()) {
                boolean told = signs.group(1).matches("[1-9]\\d*|THINGS|REMARKS|BITS");
                fault(!told && !line.contains("b == 0 ? 0 :"), "the divisor in " + line.trim());
                count++;
            }
        }
        fault(count < 20, "divisors are found");
    }

    private static void methods(String text) {
        Matcher heads = Pattern.compile("(?m)^( {4}| {8})(\\w[\\w\\[\\]<> ]* )?(\\w+)\\([^)]*\\) \\{\n").matcher(text);
        int count = 0;
        while (heads.find()) {
            int end = text.indexOf("\n" + heads.group(1) + "}\n", heads.end() - 1);
            long lines = text.substring(heads.start(), end).lines().count() + 1;
            fault(lines > 62, heads.group(3) + " has " + lines + " lines");
            count++;
        }
        fault(count < 100, "methods are found");
    }

    // ---- what calls make

    /** The bytes that the dearest calls make: next to none, so that a run fits into its room. */
    private static void made() {
        com.sun.management.ThreadMXBean threads = (com.sun.management.ThreadMXBean) ManagementFactory.getThreadMXBean();
        long self = Thread.currentThread().getId();
        dearest(new Stylite());
        long before = threads.getThreadAllocatedBytes(self);
        Stylite x = new Stylite();
        long behind = threads.getThreadAllocatedBytes(self);
        fault(behind - before > 100000, "a new object takes " + (behind - before) + " bytes");
        dearest(x);
        long last = threads.getThreadAllocatedBytes(self);
        fault(last - behind > 100000, "calls make " + (last - behind) + " bytes");
    }

    private static void dearest(Stylite x) {
        Due.law(x, "m*7+r*3+l/2+h%5");
        for (int i = 0; i < 6; i++) {
            x.stall(21845 + i, 10);
        }
        x.row(0, 0, 60);
        for (int i = 0; i < 12; i++) {
            x.put(0, i, i);
        }
        for (int i = 0; i < 30; i++) {
            x.make(4 * 1024 + 7, -1);
            x.most(255, 13311, 3);
            x.quiet(13311, 3);
            x.recite(0, -2);
            x.waysTo(0);
            x.best(200, -1);
            x.read(0, 0);
            x.round(0);
            x.drawn(1, 3024, 1512, 1);
            x.hours(0, 200, 5);
            x.image();
            x.back();
            x.mend(0, 0, i % 16);
        }
    }
}
