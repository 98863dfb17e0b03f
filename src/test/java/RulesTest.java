import java.lang.management.ManagementFactory;
import java.lang.reflect.Constructor;
import java.lang.reflect.Field;
import java.lang.reflect.Method;
import java.lang.reflect.Modifier;
import java.nio.file.Files;
import java.nio.file.Path;
import java.util.ArrayList;
import java.util.Arrays;
import java.util.HashSet;
import java.util.List;
import java.util.Set;
import java.util.TreeSet;
import java.util.regex.Matcher;
import java.util.regex.Pattern;

/** The face of the class, what can be seen of the rules in its text, and the room that a run of calls takes. */
public final class RulesTest {
    private static int wrong = 0;

    private static void must(boolean is, String what) {
        if (is) return;
        wrong++;
        System.out.println("not so: " + what);
    }

    private static final String[] FACE = {
        "int letters(long)", "int blank()", "int fault()", "int bridge()", "int as(int,int)", "int about(int,int)",
        "int offset(int,int)", "int frost(boolean)", "int joins(int,int)", "int lasts(int,int)",
        "int soonest(int,int,int,int,int)", "int last(int,int,int,int,int,int)", "long again()", "int cut(int,int,int)",
        "int worst(int,int,int,int,int)", "int mean(int,int,int,int,int,int)", "int set(int,int,int)",
        "int crowd(int,int,int,int,int,int)", "int stranded(int,int,int)", "int meeting(int,int,int,int,int,int)",
        "int note(int,int,int,int)", "int forget()", "int lost(int)", "int worth(int,int,int)", "int image()",
        "int restore()", "int count(int)", "long digest()"};

    private static void face() {
        Set<String> found = new TreeSet<>();
        Set<String> names = new HashSet<>();
        for (Method m : NineBridges.class.getDeclaredMethods()) {
            if (Modifier.isPrivate(m.getModifiers()) || m.isSynthetic()) continue;
            must(Modifier.isPublic(m.getModifiers()) && !Modifier.isStatic(m.getModifiers()), m + " is public");
            StringBuilder s = new StringBuilder(m.getReturnType() + " " + m.getName() + "(");
            for (Class<?> p : m.getParameterTypes()) s.append(s.charAt(s.length() - 1) == '(' ? "" : ",").append(p);
            found.add(s.append(")").toString());
            names.add(m.getName());
        }
        must(found.equals(new TreeSet<>(Arrays.asList(FACE))), "the face is the document's: " + found);
        for (Class<?> c : allClasses()) {
            for (Method m : c.getDeclaredMethods()) {
                if (Modifier.isPrivate(m.getModifiers())) must(!names.contains(m.getName()), m + " has no public name");
                must(m.getParameterCount() <= 7, m + " has seven parameters at most");
            }
        }
        Constructor<?>[] made = NineBridges.class.getDeclaredConstructors();
        must(made.length == 1 && Modifier.isPublic(made[0].getModifiers()) && made[0].getParameterCount() == 0, "one constructor");
        must(Modifier.isFinal(NineBridges.class.getModifiers()) && Modifier.isPublic(NineBridges.class.getModifiers()), "public, final");
    }

    private static List<Class<?>> allClasses() {
        List<Class<?>> all = new ArrayList<>();
        all.add(NineBridges.class);
        all.addAll(Arrays.asList(NineBridges.class.getDeclaredClasses()));
        return all;
    }

    private static void fields() {
        Set<String> constants = new TreeSet<>();
        for (Field f : NineBridges.class.getDeclaredFields()) if (!Modifier.isPrivate(f.getModifiers())) constants.add(f.getName());
        must(constants.equals(new TreeSet<>(List.of("NONE", "UNKNOWN", "OUTSIDE", "STATE", "FULL"))), "constants: " + constants);
        must(allClasses().size() <= 12, "twelve classes at most");
        for (Class<?> c : allClasses()) {
            int own = 0;
            for (Field f : c.getDeclaredFields()) {
                if (Modifier.isStatic(f.getModifiers())) must(Modifier.isFinal(f.getModifiers()), f + " is final");
                else own++;
            }
            must(own <= 20, c + " has twenty fields at most");
            if (c != NineBridges.class) must(Modifier.isStatic(c.getModifiers()), c + " is static");
        }
    }

    private static void text() throws Exception {
        String all = Files.readString(Path.of("src/main/java/NineBridges.java"));
        must(all.chars().allMatch(c -> c == '\n' || (c >= 32 && c < 127)), "plain signs alone");
        String code = all.replaceAll("(?s)/\\*.*?\\*/", "").replaceAll("//[^\n]*", "").replaceAll("'[^']'", "'x'");
        for (String word : new String[] {"throw", "throws", "try", "catch", "finally", "synchronized", "assert", "package",
            "protected", "double", "float", "Object", "equals", "hashCode", "toString", "System.out", "MAX_VALUE", "MIN_VALUE",
            "Exact", "Random", "Thread", "nanoTime", "currentTimeMillis", "volatile", "transient", "native", "strictfp"}) {
            must(!Pattern.compile("\\b" + Pattern.quote(word) + "\\b").matcher(code).find(), "no " + word);
        }
        must(!code.contains("->") && !code.contains("::"), "no lambda, no method reference");
        must(!Pattern.compile("static\\s*\\{").matcher(code).find(), "no static block");
        Matcher imports = Pattern.compile("import ([^;]*);").matcher(code);
        while (imports.find()) must(imports.group(1).equals("java.util.ArrayList") || imports.group(1).equals("java.util.Arrays"), imports.group());
        Matcher used = Pattern.compile("\\b(Math|Arrays|System|Integer|Long)\\.(\\w+)").matcher(code);
        Set<String> listed = Set.of("Math.max", "Math.min", "Math.floorMod", "Arrays.fill", "Arrays.copyOf", "System.arraycopy");
        while (used.find()) must(listed.contains(used.group()), used.group() + " is in the list");
        must(!Pattern.compile("while\\s*\\(|do\\s*\\{").matcher(code).find(), "loops count");
        methodsAreShort(all);
    }

    private static void methodsAreShort(String all) {
        String[] lines = all.split("\n");
        for (int i = 0; i < lines.length; i++) {
            if (!lines[i].matches(" {4}(    )?[a-zA-Z].*\\) \\{")) continue;
            String indent = lines[i].replaceAll("\\S.*", "");
            int end = i;
            while (end < lines.length && !lines[end].equals(indent + "}")) end++;
            must(end - i <= 60, "sixty lines at most: " + lines[i].trim());
        }
    }

    /** What a run of dear calls makes; the room has some 7.3 million elements. */
    private static void room() {
        var threads = (com.sun.management.ThreadMXBean) ManagementFactory.getThreadMXBean();
        long me = Thread.currentThread().getId();
        long ahead = threads.getThreadAllocatedBytes(me);
        NineBridges x = new NineBridges();
        long made = threads.getThreadAllocatedBytes(me) - ahead;
        must(made < 200_000, "a new object is small: " + made);
        for (int b = 0; b < 10; b++) {
            x.letters(0x312f332c64633a61L + (b % 2));
            x.letters(0x302bL);
            x.bridge();
        }
        must(x.count(0) == 10, "ten bridges");
        ahead = threads.getThreadAllocatedBytes(me);
        for (int i = 0; i < 60; i++) {
            x.worth(0, 1, 1);
            x.set(0, 0, 1);
            x.crowd(0, 1, i, i + 60, 1, 1);
            x.lost(0);
            x.digest();
            x.image();
            x.restore();
            x.meeting(0, 1, 0, 1, 1, 0);
        }
        made = threads.getThreadAllocatedBytes(me) - ahead;
        must(made < 100_000, "calls make next to nothing: " + made);
    }

    public static void main(String[] args) throws Exception {
        face();
        fields();
        text();
        room();
        System.out.println(wrong == 0 ? "the rules that can be seen are kept" : wrong + " are not so");
        if (wrong != 0) System.exit(1);
    }
}
