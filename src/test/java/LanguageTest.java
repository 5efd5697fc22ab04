import java.lang.reflect.Constructor;
import java.lang.reflect.Field;
import java.lang.reflect.Method;
import java.lang.reflect.Modifier;
import java.nio.file.Files;
import java.nio.file.Path;
import java.util.ArrayList;
import java.util.List;
import java.util.Set;
import java.util.TreeSet;
import java.util.regex.Matcher;
import java.util.regex.Pattern;

/** Promises 1 to 42: the face of the document; and what of LANGUAGE.md can be found in the source and the class. */
final class LanguageTest {
    private static final Check check = Check.begin();

    private static final String[] FACE = {
        "int feed(int)", "int end(int)", "int text()", "int fault()", "int rule(int)", "int saying(int,int)",
        "int hearer(int)", "int wall(int)", "int wind(int)", "int alter(int,int,int)", "int stand(int,int)",
        "int build(int,boolean)", "int blow(int,int)", "int say(int,int,int)", "int lands(int,int)", "int hears(int)",
        "int field(int,int)", "int sum(int)", "int most(int)", "int aim(int,int)", "int reach(int)", "int screen(int)",
        "int walk(int,int)", "int walks(int)", "int when(int,int)", "long luck(int,int,int,int)", "long mean(int,int)",
        "int see(int,int)", "int forget(int)", "int kinds(int)", "int forces(int)", "int froms(int,int)",
        "int look(int,int)", "int drift(int,int,int)", "int keep(int)", "int back(int)", "int sheet(int,int,int)",
        "int lay(int,int,int)", "int read(int,int,int,int)", "int torn()", "int count(int)"
    };

    public static void main(String[] args) throws Exception {
        face();
        classesInside();
        words(Files.readString(Path.of("src/main/java/VoiceFall.java")));
        check.finish(1, 42);
    }

    private static String told(Method m) {
        List<String> types = new ArrayList<>();
        for (Class<?> type : m.getParameterTypes()) {
            types.add(type.getName());
        }
        return m.getReturnType().getName() + " " + m.getName() + "(" + String.join(",", types) + ")";
    }

    private static String nameOf(String call) {
        return call.substring(call.indexOf(' ') + 1, call.indexOf('('));
    }

    private static void face() {
        Set<String> due = new TreeSet<>(List.of(FACE));
        Set<String> found = new TreeSet<>();
        for (Method m : VoiceFall.class.getDeclaredMethods()) {
            if (!Modifier.isPrivate(m.getModifiers())) {
                check.that(m + " is public", Modifier.isPublic(m.getModifiers()) && !Modifier.isStatic(m.getModifiers()));
                found.add(told(m));
            }
        }
        for (String call : FACE) {
            check.promiseOf(nameOf(call), "the public face");
            check.that(call + " is there", found.contains(call));
        }
        check.promise(0, "");
        check.that("no other methods: " + found, found.equals(due));
        Set<String> constants = new TreeSet<>();
        for (Field f : VoiceFall.class.getDeclaredFields()) {
            if (!Modifier.isPrivate(f.getModifiers())) {
                check.that(f + " is a public constant of int", f.getModifiers() == (Modifier.PUBLIC | Modifier.STATIC | Modifier.FINAL)
                    && f.getType() == int.class);
                constants.add(f.getName());
            }
        }
        check.that("the constants of the face: " + constants, constants.equals(Set.of("BAD", "STATE", "FULL", "NONE")));
        Constructor<?>[] constructors = VoiceFall.class.getDeclaredConstructors();
        check.promise(1, "VoiceFall()");
        check.that("one public constructor", constructors.length == 1 && Modifier.isPublic(constructors[0].getModifiers())
            && constructors[0].getParameterCount() == 0);
        check.promise(0, "");
        check.that("public and final", (VoiceFall.class.getModifiers() & (Modifier.PUBLIC | Modifier.FINAL)) == (Modifier.PUBLIC | Modifier.FINAL));
        check.due("BAD", VoiceFall.BAD, -1);
        check.due("STATE", VoiceFall.STATE, -2);
        check.due("FULL", VoiceFall.FULL, -3);
        check.due("NONE", VoiceFall.NONE, -4);
    }

    private static void classesInside() {
        Set<String> names = new TreeSet<>();
        for (String line : FACE) {
            names.add(nameOf(line));
        }
        List<Class<?>> all = new ArrayList<>(List.of(VoiceFall.class.getDeclaredClasses()));
        check.that("at most twelve classes", all.size() < 12);
        all.add(VoiceFall.class);
        for (Class<?> c : all) {
            check.that(c + " is static", c == VoiceFall.class || Modifier.isStatic(c.getModifiers()));
            int fields = 0;
            for (Field f : c.getDeclaredFields()) {
                check.that(f + " is final if static", !Modifier.isStatic(f.getModifiers()) || Modifier.isFinal(f.getModifiers()));
                fields += Modifier.isStatic(f.getModifiers()) ? 0 : 1;
            }
            check.that(c + " has at most twenty fields", fields <= 20);
            for (Method m : c.getDeclaredMethods()) {
                check.that(m + " has at most seven parameters", m.getParameterCount() <= 7);
                check.that(m + " bears a name of its own",
                    c == VoiceFall.class && Modifier.isPublic(m.getModifiers()) || !names.contains(m.getName()));
            }
        }
    }

    private static void words(String source) {
        for (int i = 0; i < source.length(); i++) {
            check.that("sign " + i + " is of ASCII", source.charAt(i) < 128);
        }
        String code = source.replaceAll("(?s)/\\*.*?\\*/", "").replaceAll("//[^\n]*", "").replaceAll("\"[^\"\n]*\"", "\"\"");
        String[] never = {"throw", "throws", "try", "catch", "finally", "synchronized", "assert", "import", "package", "volatile",
            "native", "strictfp", "transient", "yield", "var", "protected", "hashCode", "toString", "equals"};
        for (String word : never) {
            check.that("no " + word, !Pattern.compile("\\b" + word + "\\b").matcher(code).find());
        }
        check.that("no lambda", !code.contains("->"));
        check.that("no method reference", !code.contains("::"));
        check.that("no ..Exact", !code.contains("Exact("));
        Matcher library = Pattern.compile("\\b(String|StringBuilder|Integer|Long|Math|System|Arrays|List|ArrayList)\\.(\\w+)").matcher(code);
        Set<String> allowed = Set.of("Integer.bitCount", "Long.bitCount", "Math.min", "Math.max", "System.arraycopy");
        while (library.find()) {
            check.that("allowed: " + library.group(), allowed.contains(library.group()));
        }
        lengths(source);
    }

    /** A method's lines stand between its head and the closing brace of the same depth. */
    private static void lengths(String source) {
        String[] lines = source.split("\n");
        Pattern head = Pattern.compile("^( +)(public |private |static )*[\\w\\[\\]]+ \\w+\\([^;]*\\) \\{$");
        for (int i = 0; i < lines.length; i++) {
            Matcher m = head.matcher(lines[i]);
            if (m.matches() && !lines[i].contains("else if")) {
                int end = i;
                while (end < lines.length && !lines[end].equals(m.group(1) + "}")) {
                    end++;
                }
                check.that("short: " + lines[i].trim(), end - i <= 60);
            }
        }
    }
}
