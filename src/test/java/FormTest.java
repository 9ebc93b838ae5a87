import java.io.IOException;
import java.lang.reflect.Constructor;
import java.lang.reflect.Field;
import java.lang.reflect.Method;
import java.lang.reflect.Modifier;
import java.nio.file.Files;
import java.nio.file.Path;
import java.util.HashSet;
import java.util.Set;
import java.util.TreeSet;
import java.util.regex.Matcher;
import java.util.regex.Pattern;

/** The face is the document's and no more, and the source keeps to what a text search can tell of LANGUAGE.md. */
public final class FormTest {
    static int wrong;

    static void check(boolean holds, String what) {
        if (!holds) {
            wrong++;
            System.out.println("not so: " + what);
        }
    }

    public static void main(String[] args) throws IOException {
        checkFace(face(Files.readString(Path.of("../shared/DOC.md"))));
        checkSource(Files.readString(Path.of("src/main/java/WhoseKiln.java")));
        System.out.println(wrong == 0 ? "the form is kept" : wrong + " faults of form");
        if (wrong != 0) {
            System.exit(1);
        }
    }

    static Set<String> face(String doc) {
        Set<String> found = new TreeSet<>();
        Matcher m = Pattern.compile("    public (int|long|boolean) (\\w+)\\(([^)]*)\\)").matcher(doc);
        while (m.find()) {
            StringBuilder types = new StringBuilder();
            for (String parameter : m.group(3).split(", ")) {
                types.append(parameter.isEmpty() ? "" : parameter.split(" ")[0] + " ");
            }
            found.add(m.group(1) + " " + m.group(2) + " " + types);
        }
        return found;
    }

    static void checkFace(Set<String> due) {
        check(due.size() == 35, "the document's face has 35 methods, found " + due.size());
        Class<?> c = WhoseKiln.class;
        check(Modifier.isFinal(c.getModifiers()) && Modifier.isPublic(c.getModifiers()), "the class is public and final");
        Set<String> found = new TreeSet<>();
        Set<String> names = new HashSet<>();
        for (Method m : c.getDeclaredMethods()) {
            if (Modifier.isPublic(m.getModifiers())) {
                StringBuilder types = new StringBuilder();
                for (Class<?> t : m.getParameterTypes()) {
                    types.append(t.getName()).append(' ');
                }
                found.add(m.getReturnType().getName() + " " + m.getName() + " " + types);
                names.add(m.getName());
            }
        }
        check(found.equals(due), "the methods are the document's: " + found + " and " + due);
        for (Method m : c.getDeclaredMethods()) {
            boolean isPrivate = Modifier.isPrivate(m.getModifiers());
            check(isPrivate || Modifier.isPublic(m.getModifiers()), m + " is public or private");
            check(!isPrivate || !names.contains(m.getName()), m + " has a name of its own");
        }
        for (Field f : c.getDeclaredFields()) {
            check(f.getName().equals("NONE") || Modifier.isPrivate(f.getModifiers()), f + " is private");
            check(!Modifier.isStatic(f.getModifiers()) || Modifier.isFinal(f.getModifiers()), f + " is final");
        }
        for (Constructor<?> k : c.getDeclaredConstructors()) {
            check(k.getParameterCount() == 0 && Modifier.isPublic(k.getModifiers()), k + " is the public one");
        }
        for (Class<?> inner : c.getDeclaredClasses()) {
            check(Modifier.isStatic(inner.getModifiers()) && !Modifier.isPublic(inner.getModifiers()), inner + " is static and not public");
            for (Field f : inner.getDeclaredFields()) {
                check(!Modifier.isStatic(f.getModifiers()) || Modifier.isFinal(f.getModifiers()), f + " is final");
            }
        }
    }

    static void checkSource(String source) {
        String[] barred = {"->", "::", "\\bcatch\\b", "\\btry\\b", "\\bfinally\\b", "\\bsynchronized\\b", "\\bassert\\b", "\\brecord\\b",
            "\\bInteger\\.M", "\\bLong\\.M", "Exact\\(", "\\bString\\.", "\\bSystem\\.(?!arraycopy)", "\\bThread\\b", "\\bRandom\\b",
            "\\bObject\\b", "\\bequals\\(", "\\bhashCode\\b", "\\btoString\\b", "\\bprotected\\b", "\\bpackage\\b"};
        for (String word : barred) {
            check(!Pattern.compile(word).matcher(source).find(), "the source is without " + word);
        }
        check(source.chars().allMatch(c -> c == 10 || c >= 32 && c <= 126), "the source has plain signs alone");
        Matcher imports = Pattern.compile("import ([^;]*);").matcher(source);
        while (imports.find()) {
            check(imports.group(1).equals("java.util.NoSuchElementException"), "no import of " + imports.group(1));
        }
        int begun = 0;
        int line = 0;
        for (String text : source.split("\n")) {
            line++;
            check(text.length() <= 120, "line " + line + " is not too long");
            if (text.matches(" +(public |private |static )*[\\w\\[\\]]+ \\w+\\(.*\\{")) {
                begun = line;
            }
            if (text.matches("( {4}| {8})\\}") && begun > 0) {
                check(line - begun < 60, "the method at line " + begun + " is short");
                begun = 0;
            }
        }
    }
}
