import com.sun.management.ThreadMXBean;
import java.lang.management.ManagementFactory;
import java.lang.reflect.Constructor;
import java.lang.reflect.Field;
import java.lang.reflect.Method;
import java.lang.reflect.Modifier;
import java.nio.file.Files;
import java.nio.file.Path;
import java.util.ArrayList;
import java.util.List;
import java.util.Random;
import java.util.TreeSet;
import java.util.regex.Matcher;
import java.util.regex.Pattern;

/** The face of the class, the rules of its language that can be seen in its source, and that no call ever throws. */
public final class RulesTest {
    private static final String[] FACE = {"int places(int)", "int dog(int,int,int)", "int pup(int,int,int,int,int,int)",
        "int shut(int,boolean)", "int put(int,int)", "int type(long,int)", "int clear()", "int read()",
        "int goes(int,int,int,int)", "int run(int,int,int,int)", "int meets(int,int,int)", "int tame(int,int)",
        "int quiet(int)", "int apart(int)", "int shuts(int)", "int neighbour(int,int,int,int)", "int tells(int,int,int)",
        "int which(int,int,int)", "int starts(int,int,int,int)", "int drawn(int,int,int)", "long part(int)",
        "int image(int)", "int from(int)", "int status(int)", "int count(int)", "long digest()"};

    private static final String[] FORBIDDEN = {"\\bthrow\\b", "\\bthrows\\b", "\\btry\\b", "\\bcatch\\b", "\\bassert\\b",
        "\\bsynchronized\\b", "->", "::", "\\bvar\\b", "@", "\\bpackage\\b", "\\bprotected\\b", "Exact\\b", "\\bSystem\\.(?!arraycopy)",
        "\\bThread\\b", "\\bRandom\\b", "\\bObject\\b", "\\bnative\\b", "\\bvolatile\\b", "\\bhashCode\\b", "\\btoString\\b",
        "while \\(true\\)", "for \\(;;\\)"};

    private static int wrong = 0;

    private static void check(boolean fits, String what) {
        if (!fits) {
            wrong++;
            System.out.println(what);
        }
    }

    public static void main(String[] args) throws Exception {
        checkFace();
        checkSource(Files.readString(Path.of("src/main/java/OneWhistle.java")));
        checkNothingThrows();
        checkRoom();
        System.out.println(wrong == 0 ? "the rules are kept" : wrong + " rules are broken");
        if (wrong != 0) {
            System.exit(1);
        }
    }

    private static void checkFace() {
        Class<?> face = OneWhistle.class;
        check(Modifier.isPublic(face.getModifiers()) && Modifier.isFinal(face.getModifiers()), "the class is public and final");
        TreeSet<String> found = new TreeSet<>();
        TreeSet<String> hidden = new TreeSet<>();
        TreeSet<String> open = new TreeSet<>();
        for (Method method : face.getDeclaredMethods()) {
            StringBuilder told = new StringBuilder(method.getReturnType() + " " + method.getName() + "(");
            for (Class<?> type : method.getParameterTypes()) {
                told.append(told.toString().endsWith("(") ? "" : ",").append(type);
            }
            if (Modifier.isPublic(method.getModifiers())) {
                found.add(told + ")");
                open.add(method.getName());
            } else {
                hidden.add(method.getName());
                check(Modifier.isPrivate(method.getModifiers()), method.getName() + " is private");
            }
        }
        check(found.equals(new TreeSet<>(List.of(FACE))), "the face is the document's: " + found);
        for (Field field : face.getDeclaredFields()) {
            boolean constant = List.of("NONE", "BAD", "NO", "FULL").contains(field.getName());
            int modifiers = field.getModifiers();
            check(constant == Modifier.isPublic(modifiers) && constant != Modifier.isPrivate(modifiers), field + " is private");
        }
        for (Constructor<?> constructor : face.getDeclaredConstructors()) {
            check(Modifier.isPublic(constructor.getModifiers()) && constructor.getParameterCount() == 0, "one constructor");
        }
        for (Class<?> inner : face.getDeclaredClasses()) {
            check(Modifier.isStatic(inner.getModifiers()), inner + " is static");
            for (Method method : inner.getDeclaredMethods()) {
                hidden.add(method.getName());
            }
            int fields = 0;
            for (Field field : inner.getDeclaredFields()) {
                boolean isStatic = Modifier.isStatic(field.getModifiers());
                check(!isStatic || Modifier.isFinal(field.getModifiers()), field + " is static and final");
                fields += isStatic ? 0 : 1;
            }
            check(fields <= 20, inner + " has few fields");
        }
        check(face.getDeclaredClasses().length <= 12, "few classes");
        hidden.retainAll(open);
        check(hidden.isEmpty(), "no other method bears the name of a public one: " + hidden);
    }

    private static void checkSource(String source) {
        String bare = source.replaceAll("(?s)/\\*.*?\\*/", "").replaceAll("//[^\n]*", "");
        for (String pattern : FORBIDDEN) {
            check(!Pattern.compile(pattern).matcher(bare).find(), "the source has " + pattern);
        }
        Matcher imports = Pattern.compile("(?m)^import (.*);").matcher(bare);
        while (imports.find()) {
            check(imports.group(1).equals("java.util.Arrays"), "import of " + imports.group(1));
        }
        for (char sign : source.toCharArray()) {
            check(sign == '\n' || sign >= 32 && sign < 127, "the source has the sign " + (int) sign);
        }
        checkLengths(source.split("\n"));
    }

    private static void checkLengths(String[] lines) {
        for (int i = 0; i < lines.length; i++) {
            check(lines[i].length() <= 130, "line " + (i + 1) + " is long");
            Matcher header = Pattern.compile("( {4}| {8})[a-z][^=]*\\(.*\\) \\{").matcher(lines[i]);
            if (!header.matches()) {
                continue;
            }
            int end = i;
            while (!lines[end].equals(header.group(1) + "}")) {
                end++;
            }
            check(end - i < 60, "the method at line " + (i + 1) + " is long");
        }
    }

    private static void checkNothingThrows() {
        Random random = new Random(7);
        for (int run = 0; run < 400; run++) {
            OneWhistle x = new OneWhistle();
            List<String> log = new ArrayList<>();
            try {
                for (int call = 0; call < 512; call++) {
                    anyCall(x, random, log);
                }
            } catch (RuntimeException | Error thrown) {
                check(false, "run " + run + " threw " + thrown + " behind " + log);
            }
        }
    }

    /** A run of the dearest calls stays far below the room that all runs share, so that there is room for many. */
    private static void checkRoom() {
        ThreadMXBean threads = (ThreadMXBean) ManagementFactory.getThreadMXBean();
        long self = Thread.currentThread().getId();
        // The first object brings in the classes.
        dearRun();
        long before = threads.getThreadAllocatedBytes(self);
        dearRun();
        long made = threads.getThreadAllocatedBytes(self) - before;
        check(made < 1_000_000, "a run made " + made + " bytes");
    }

    private static void dearRun() {
        OneWhistle x = new OneWhistle();
        x.dog(0, 10499, 17475);
        x.dog(0, 5249, 2059);
        x.pup(3, 2257, 4681, 2257, 13376, 3);
        x.type(0x706c616365732035L, 8);
        x.type(';', 1);
        for (int call = 6; call + 5 <= 512; call += 5) {
            x.image(0);
            x.quiet(7);
            x.shuts(7);
            x.read();
            x.from(0);
        }
    }

    private static int any(Random random) {
        switch (random.nextInt(5)) {
            case 0: return random.nextInt();
            case 1: return 1 << random.nextInt(32);
            case 2: return (1 << random.nextInt(32)) - 1;
            default: return random.nextInt(6);
        }
    }

    private static int row(Random random) {
        return random.nextInt(4) == 0 ? any(random) : random.nextInt(2) | random.nextInt(2) << 3;
    }

    private static void anyCall(OneWhistle x, Random random, List<String> log) {
        int a = any(random);
        int b = any(random);
        int c = any(random);
        int d = any(random);
        int call = random.nextInt(26);
        log.add(call + ":" + a + "," + b + "," + c + "," + d);
        switch (call) {
            case 0: x.places(a); break;
            case 1: x.dog(a, row(random), row(random)); break;
            case 2: x.pup(a, row(random), row(random), row(random), row(random), b); break;
            case 3: x.shut(a, random.nextBoolean()); break;
            case 4: x.put(a, b); break;
            case 5: x.type(random.nextLong(), a); break;
            case 6: x.clear(); break;
            case 7: x.read(); break;
            case 8: x.goes(a, b, c, d); break;
            case 9: x.run(a, b, c, d); break;
            case 10: x.meets(a, b, c); break;
            case 11: x.tame(a, b); break;
            case 12: x.quiet(a); break;
            case 13: x.apart(a); break;
            case 14: x.shuts(a); break;
            case 15: x.neighbour(a, b, c, d); break;
            case 16: x.tells(a, b, c); break;
            case 17: x.which(a, b, c); break;
            case 18: x.starts(a, b, c, d); break;
            case 19: x.drawn(a, b, c); break;
            case 20: x.part(a); break;
            case 21: x.image(a); break;
            case 22: x.from(a); break;
            case 23: x.status(a); break;
            case 24: x.count(a); break;
            default: x.digest(); break;
        }
    }
}
