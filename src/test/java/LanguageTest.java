import java.io.IOException;
import java.lang.reflect.Constructor;
import java.lang.reflect.Field;
import java.lang.reflect.Method;
import java.lang.reflect.Modifier;
import java.nio.file.Files;
import java.nio.file.Path;
import java.util.ArrayList;
import java.util.List;
import java.util.Set;
import java.util.TreeSet;
import java.util.regex.Matcher;
import java.util.regex.Pattern;

/** What of ../shared/LANGUAGE.md can be looked up in the source and in the class itself. */
public final class LanguageTest {
    private static final String FACE = "feed5 end1 sign0 rules0 fault0 place3 weight2 prices2 mark3 surface5 distance3 sight7"
            + " trust2 joined3 clashes3 read3 best1 led2 rivals4 cost6 near2 gap2 nearest1 parting0 like4 variant2 use4"
            + " prior2 used4 counts3 share4 region2 image1 back1 count1 status0";
    private static final String[] FORBIDDEN = {
        "\\bthrow\\b", "\\btry\\b", "\\bcatch\\b", "\\bsynchronized\\b", "\\bassert\\b", "->", "::", "\\bpackage\\b",
        "\\bdouble\\b", "\\bfloat\\b", "\\bRandom\\b", "\\bThread\\b", "currentTimeMillis", "nanoTime", "\\w+Exact\\b",
        "\\bhashCode\\b", "\\btoString\\b", "\\bwhile\\s*\\(\\s*true\\b", "for\\s*\\(\\s*;\\s*;", "\"\\s*\\+", "\\+\\s*\"",
        "\\bprotected\\b", "\\bvar\\b", "\\bSystem\\.(?!arraycopy\\b)", "\\bArrays\\.(?!fill\\b)",
        "\\bMath\\.(?!min\\b|max\\b|abs\\b)", "\\bInteger\\.(?!bitCount\\b|numberOfTrailingZeros\\b)", "\\[\\]\\[\\]"};
    private static int wrong = 0;

    public static void main(String[] args) throws IOException {
        String source = Files.readString(Path.of("src/main/java/HandTongue.java"));
        words(bare(source));
        imports(source);
        lengths(bare(source));
        face();
        faceOfDocument(source);
        classes();
        System.out.println("LanguageTest: " + wrong + " wrong");
        if (wrong != 0) {
            System.exit(1);
        }
    }

    private static void fail(String what) {
        wrong++;
        System.out.println(what);
    }

    /** The source without comments and without what stands in texts. */
    private static String bare(String source) {
        Matcher comments = Pattern.compile("/\\*.*?\\*/|//[^\n]*", Pattern.DOTALL).matcher(source);
        StringBuilder kept = new StringBuilder();
        int from = 0;
        while (comments.find()) {
            kept.append(source, from, comments.start());
            kept.append(comments.group().replaceAll("[^\n]", ""));
            from = comments.end();
        }
        kept.append(source.substring(from));
        return kept.toString().replaceAll("\"[^\"\n]*\"", "\"\"").replaceAll("'[^\n]'", "'c'");
    }

    private static void words(String source) {
        for (String word : FORBIDDEN) {
            Matcher found = Pattern.compile(word).matcher(source);
            while (found.find()) {
                fail("forbidden: " + found.group() + " in line " + lineOf(source, found.start()));
            }
        }
    }

    private static int lineOf(String source, int at) {
        return source.substring(0, at).split("\n", -1).length;
    }

    private static void imports(String source) {
        Matcher found = Pattern.compile("(?m)^import (.*);").matcher(source);
        while (found.find()) {
            if (!found.group(1).equals("java.util.Arrays")) {
                fail("import of " + found.group(1));
            }
        }
    }

    /** Methods are those blocks whose head has a bracket and stands at depth 1 or 2. */
    private static void lengths(String source) {
        String[] lines = source.split("\n", -1);
        Pattern head = Pattern.compile("^(    |        )[\\w\\[\\]<> ]+ \\w+\\(([^)]*)\\) \\{$|^(    |        )\\w+\\(([^)]*)\\) \\{$");
        int methods = 0;
        for (int i = 0; i < lines.length; i++) {
            Matcher found = head.matcher(lines[i]);
            if (!found.matches() || lines[i].trim().startsWith("if") || lines[i].trim().startsWith("for")) {
                continue;
            }
            methods++;
            String indent = lines[i].substring(0, lines[i].length() - lines[i].stripLeading().length());
            int end = i;
            while (end < lines.length && !lines[end].equals(indent + "}")) {
                end++;
            }
            if (end - i > 60) {
                fail("line " + (i + 1) + ": a method of " + (end - i) + " lines");
            }
        }
        if (methods < 100) {
            fail("only " + methods + " methods were found");
        }
    }

    private static void face() {
        Set<String> due = new TreeSet<>(List.of(FACE.split(" ")));
        Set<String> found = new TreeSet<>();
        for (Method method : HandTongue.class.getDeclaredMethods()) {
            if (Modifier.isPublic(method.getModifiers())) {
                found.add(method.getName() + method.getParameterCount());
                Class<?> answer = method.getName().equals("share") ? long.class : int.class;
                if (method.getReturnType() != answer || Modifier.isStatic(method.getModifiers())) {
                    fail("answer of " + method);
                }
            } else if (!Modifier.isPrivate(method.getModifiers())) {
                fail("seen outside: " + method);
            }
        }
        if (!found.equals(due)) {
            fail("the face is " + found + ", due is " + due);
        }
        for (Field field : HandTongue.class.getDeclaredFields()) {
            boolean constant = field.getName().equals("NONE") && Modifier.isPublic(field.getModifiers());
            if (!constant && !Modifier.isPrivate(field.getModifiers())) {
                fail("seen outside: " + field);
            }
        }
        for (Constructor<?> constructor : HandTongue.class.getDeclaredConstructors()) {
            if (!Modifier.isPublic(constructor.getModifiers()) || constructor.getParameterCount() != 0) {
                fail("constructor " + constructor);
            }
        }
        int modifiers = HandTongue.class.getModifiers();
        if (!Modifier.isPublic(modifiers) || !Modifier.isFinal(modifiers)) {
            fail("the class is public and final");
        }
    }

    /** Each line of the document's face stands in the source, but for the bodies of the methods. */
    private static void faceOfDocument(String source) throws IOException {
        Path document = Path.of("../shared/DOC.md");
        if (!Files.exists(document)) {
            return;
        }
        String text = Files.readString(document);
        int from = text.indexOf("public final class HandTongue {");
        int to = text.indexOf("```", from);
        if (from < 0 || to < 0) {
            fail("no face was found in the document");
            return;
        }
        int lines = 0;
        for (String line : text.substring(from, to).split("\n")) {
            String due = line.endsWith(");") ? line.substring(0, line.length() - 1) + " {" : line;
            if (!(source + "\n").contains("\n" + due + "\n")) {
                fail("of the document's face is missing: " + line);
            }
            lines++;
        }
        if (lines != 40) {
            fail("the document's face has " + lines + " lines");
        }
    }

    private static void classes() {
        Set<String> names = new TreeSet<>();
        for (String name : FACE.split(" ")) {
            names.add(name.substring(0, name.length() - 1));
        }
        List<Class<?>> all = new ArrayList<>(List.of(HandTongue.class.getDeclaredClasses()));
        if (all.size() > 11) {
            fail(all.size() + " classes inside");
        }
        all.add(HandTongue.class);
        for (Class<?> one : all) {
            if (one != HandTongue.class && !Modifier.isStatic(one.getModifiers())) {
                fail("not static: " + one);
            }
            int fields = 0;
            for (Field field : one.getDeclaredFields()) {
                boolean fixed = Modifier.isStatic(field.getModifiers());
                fields += fixed ? 0 : 1;
                if (fixed && !Modifier.isFinal(field.getModifiers())) {
                    fail("static and not final: " + field);
                }
            }
            if (fields > 20) {
                fail(one + " has " + fields + " fields");
            }
            for (Method method : one.getDeclaredMethods()) {
                boolean ofFace = one == HandTongue.class && Modifier.isPublic(method.getModifiers());
                if (!ofFace && names.contains(method.getName())) {
                    fail("bears a name of the face: " + method);
                }
                if (method.getParameterCount() > 7) {
                    fail("too many parameters: " + method);
                }
            }
        }
    }
}
