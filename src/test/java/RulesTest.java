import java.io.IOException;
import java.lang.management.ManagementFactory;
import java.lang.reflect.Constructor;
import java.lang.reflect.Field;
import java.lang.reflect.Method;
import java.lang.reflect.Modifier;
import java.nio.file.Files;
import java.nio.file.Path;
import java.util.ArrayList;
import java.util.List;
import java.util.Set;
import java.util.TreeSet;
import java.util.function.Consumer;
import java.util.regex.Matcher;
import java.util.regex.Pattern;

/** The public face, rules of LANGUAGE.md that can be looked up, and the room that calls take. */
public final class RulesTest {
    private static final Path SOURCE = Path.of("src/main/java/QuarrelSauce.java");
    private static final String FACE = "set(int,int) deed(int,int) listed(int) dish(int,int) of(int,int) change(int,int,int) "
        + "serve(int) act(int) go(int) now(int) ahead(int,int,int) mood(int) splits(int) ready(int,int) peace(int) "
        + "deedFor(int,int) grudgeFor(int,int) kindFor(int,int) best(int) takeOff(int) fits(int,int) kinds(int,int) "
        + "service(int) odds(int,int,int) seed(int) feed(int,int) wipe() text() hold(int,int) as(int,int) "
        + "sheet(int,int,int) write(int,int,int) copy(int,int,int,int,int) load(int) judge(int) image() undo() tear() "
        + "count(int) status(int)";
    private static int wrong = 0;

    private static void due(boolean holds, String rule) {
        if (!holds) {
            wrong++;
            System.out.println("not so: " + rule);
        }
    }

    public static void main(String[] args) throws IOException {
        face();
        names();
        String source = Files.readString(SOURCE);
        words(source);
        lengths(source.split("\n"));
        room();
        oddArguments();
        System.out.println(wrong == 0 ? "all rules are kept" : wrong + " rules are broken");
        if (wrong != 0) {
            System.exit(1);
        }
    }

    private static void face() {
        Class<?> c = QuarrelSauce.class;
        due(Modifier.isPublic(c.getModifiers()) && Modifier.isFinal(c.getModifiers()), "the class is public and final");
        Set<String> open = new TreeSet<>();
        for (Method m : c.getDeclaredMethods()) {
            if (!Modifier.isPrivate(m.getModifiers())) {
                List<String> types = new ArrayList<>();
                for (Class<?> t : m.getParameterTypes()) {
                    types.add(t.getName());
                }
                open.add(m.getName() + "(" + String.join(",", types) + ")");
                due(Modifier.isPublic(m.getModifiers()), m.getName() + " is public");
                due(m.getReturnType() == (m.getName().equals("odds") ? long.class : int.class), m.getName() + "'s answer");
            }
        }
        due(open.equals(new TreeSet<>(Set.of(FACE.split(" ")))), "the face is the document's: " + open);
        Constructor<?>[] made = c.getDeclaredConstructors();
        due(made.length == 1 && made[0].getParameterCount() == 0 && Modifier.isPublic(made[0].getModifiers()), "one constructor");
        for (Field f : c.getDeclaredFields()) {
            due(Modifier.isPrivate(f.getModifiers()), f.getName() + " is private");
        }
    }

    private static void names() {
        Set<String> open = new TreeSet<>();
        for (Method m : QuarrelSauce.class.getDeclaredMethods()) {
            if (Modifier.isPublic(m.getModifiers())) {
                open.add(m.getName());
            }
        }
        List<Class<?>> classes = new ArrayList<>(List.of(QuarrelSauce.class.getDeclaredClasses()));
        due(classes.size() < 12, "at most some twelve classes");
        classes.add(QuarrelSauce.class);
        for (Class<?> c : classes) {
            due(c == QuarrelSauce.class || Modifier.isStatic(c.getModifiers()), c + " is static");
            for (Method m : c.getDeclaredMethods()) {
                due(Modifier.isPublic(m.getModifiers()) || !open.contains(m.getName()), m + " bears a public name");
                due(m.getParameterCount() <= 7, m + " takes at most seven");
            }
            int fields = 0;
            for (Field f : c.getDeclaredFields()) {
                fields += Modifier.isStatic(f.getModifiers()) ? 0 : 1;
                due(!Modifier.isStatic(f.getModifiers()) || Modifier.isFinal(f.getModifiers()), f + " is final");
            }
            due(fields <= 20, c + " has at most some twenty fields");
        }
    }

    private static void words(String source) {
        String code = source.replaceAll("(?s)/\\*.*?\\*/", "").replaceAll("//[^\n]*", "");
        String[] banned = {"\\bthrow\\b", "\\bthrows\\b", "\\btry\\b", "\\bcatch\\b", "\\bsynchronized\\b", "\\bassert\\b", "->", "::",
            "Exact\\b", "\\bSystem\\.(?!arraycopy)", "\\bRandom\\b", "\\bThread\\b", "^package\\b", "\\bObjects\\b", "\\bequals\\(",
            "\\bhashCode\\b", "\\btoString\\b", "\\bstatic\\s*\\{", "\\bprotected\\b", "[^\\x00-\\x7f]"};
        for (String b : banned) {
            Matcher m = Pattern.compile(b, Pattern.MULTILINE).matcher(code);
            due(!m.find(), "no " + b + " in the source");
        }
        Matcher imports = Pattern.compile("^import (.*);", Pattern.MULTILINE).matcher(code);
        while (imports.find()) {
            due(Set.of("java.util.Arrays", "java.util.ArrayList", "java.util.List").contains(imports.group(1)), imports.group());
        }
    }

    private static void lengths(String[] lines) {
        for (int i = 0; i < lines.length; i++) {
            Matcher m = Pattern.compile("^( +)(public|private)[^=]*\\) \\{$").matcher(lines[i]);
            if (m.find()) {
                int end = i;
                while (end < lines.length && !lines[end].equals(m.group(1) + "}")) {
                    end++;
                }
                due(end - i < 60, "line " + (i + 1) + ": a method of at most some sixty lines");
            }
        }
    }

    private static QuarrelSauce fullKitchen() {
        QuarrelSauce x = new QuarrelSauce();
        for (int d = 0; d < 8; d++) {
            x.dish(d % 7, 10);
        }
        x.sheet(0, 32, 40);
        for (int i = 0; i < 40; i++) {
            x.write(0, i, -1);
        }
        return x;
    }

    private static long taken(Consumer<QuarrelSauce> call) {
        com.sun.management.ThreadMXBean room = (com.sun.management.ThreadMXBean) ManagementFactory.getThreadMXBean();
        QuarrelSauce x = fullKitchen();
        call.accept(x);
        long before = room.getCurrentThreadAllocatedBytes();
        for (int k = 0; k < 400; k++) {
            call.accept(x);
        }
        return room.getCurrentThreadAllocatedBytes() - before;
    }

    /** A run's calls live in one room, so no call may make objects. */
    private static void room() {
        List<Consumer<QuarrelSauce>> calls = List.of(x -> x.fits(0, 0), x -> x.kinds(0, 0), x -> x.deedFor(0, 60),
            x -> x.grudgeFor(0, 60), x -> x.takeOff(20), x -> x.service(20), x -> x.odds(0, 17, 1), x -> x.image(),
            x -> x.undo(), x -> x.sheet(1, 8, 40), x -> x.copy(0, 0, 0, 1, 39), x -> { x.feed(0x68656174, 4); x.text(); },
            x -> x.splits(0), x -> x.now(6), x -> x.go(60), x -> x.best(0), x -> x.kindFor(0, 60), x -> x.status(-1));
        for (int k = 0; k < calls.size(); k++) {
            long bytes = taken(calls.get(k));
            due(bytes < 4096, "dear call " + k + " makes no objects: " + bytes + " bytes");
        }
    }

    /** No call throws, whatever it is given, be the kitchen empty or full. */
    private static void oddArguments() {
        int[] odd = {Integer.MIN_VALUE, -1000001, -2, -1, 0, 1, 5, 7, 8, 11, 32, 39, 40, 41, 99, 100, Integer.MAX_VALUE};
        for (Method m : QuarrelSauce.class.getDeclaredMethods()) {
            if (!Modifier.isPublic(m.getModifiers())) {
                continue;
            }
            int n = m.getParameterCount();
            int many = (int) Math.pow(odd.length, Math.min(n, 3));
            for (int k = 0; k < many; k++) {
                Object[] a = new Object[n];
                int rest = k;
                for (int i = 0; i < n; i++) {
                    a[i] = odd[rest % odd.length];
                    rest = i % 3 == 2 ? k : rest / odd.length;
                }
                tryCall(new QuarrelSauce(), m, a);
                tryCall(fullKitchen(), m, a);
            }
        }
    }

    private static void tryCall(QuarrelSauce x, Method m, Object[] a) {
        try {
            m.invoke(x, a);
        } catch (ReflectiveOperationException e) {
            due(false, m.getName() + " of " + List.of(a) + " ends without a throw: " + e.getCause());
        }
    }
}
