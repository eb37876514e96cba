import java.io.IOException;
import java.lang.reflect.Constructor;
import java.lang.reflect.Executable;
import java.lang.reflect.Field;
import java.lang.reflect.Method;
import java.lang.reflect.Modifier;
import java.nio.file.Files;
import java.nio.file.Path;
import java.util.ArrayList;
import java.util.List;
import java.util.Set;
import java.util.TreeSet;
import java.util.regex.Matcher;
import java.util.regex.Pattern;

/** The document's face, and the rules of LANGUAGE.md that can be seen in the text of the class; run from the project's root. */
public final class LanguageTest {
    private static final Check CHECK = new Check("LanguageTest");
    private static final Pattern HEAD = Pattern.compile(
        "^( +)((?:public |private |static |final )*)([\\w\\[\\]<>]+ )?(\\w+)\\(([^()]*)\\) \\{$", Pattern.MULTILINE);

    public static void main(String[] args) throws IOException {
        String source = Files.readString(Path.of("src/main/java/LockedLetter.java"));
        String code = source.replaceAll("(?s)/\\*.*?\\*/", "").replaceAll("//[^\n]*", "").replaceAll("\"[^\"\n]*\"", "\"\"");
        plainText(source);
        forbidden(code);
        methods(code);
        classes(code);
        face(Files.readString(Path.of("../shared/DOC.md")));
        CHECK.end();
    }

    /** What is public of the class is what the document's face says, word for word. */
    private static void face(String document) {
        Set<String> due = new TreeSet<>();
        Matcher line = Pattern.compile("(?m)^    public (.*?)( = -1)?;$").matcher(document);
        while (line.find()) {
            due.add(line.group(1).replaceAll("(\\w+) \\w+(?=[,)])", "$1"));
        }
        Set<String> is = new TreeSet<>();
        for (Field field : LockedLetter.class.getFields()) {
            is.add(Modifier.toString(field.getModifiers() & ~Modifier.PUBLIC) + " " + field.getType() + " " + field.getName());
        }
        for (Constructor<?> one : LockedLetter.class.getConstructors()) {
            is.add(one.getName() + types(one));
        }
        for (Method method : LockedLetter.class.getDeclaredMethods()) {
            if (Modifier.isPublic(method.getModifiers())) {
                is.add(method.getReturnType() + " " + method.getName() + types(method));
            }
        }
        CHECK.due("lines of the face", due.size(), 33 + 2);
        CHECK.due("the face is " + is + ", due is " + due + "; alike", is.equals(due), true);
        CHECK.due("NONE", LockedLetter.NONE, -1);
        CHECK.due("final", Modifier.isFinal(LockedLetter.class.getModifiers()), true);
    }

    private static String types(Executable one) {
        List<String> names = new ArrayList<>();
        for (Class<?> type : one.getParameterTypes()) {
            names.add(type.getName());
        }
        return "(" + String.join(", ", names) + ")";
    }

    private static void plainText(String source) {
        CHECK.due("signs beyond 127", source.chars().filter(c -> c > 127).count(), 0);
        CHECK.due("package lines", count(source, "(?m)^package "), 0);
        CHECK.due("imports", count(source, "(?m)^import "), count(source, "(?m)^import java\\.util\\.Arrays;$"));
    }

    private static void forbidden(String code) {
        String[] words = {
            "throw", "throws", "try", "catch", "finally", "synchronized", "assert", "protected", "volatile", "native", "equals",
            "hashCode", "toString", "System\\.out", "Random", "Thread", "Object", "float", "double"};
        for (String word : words) {
            CHECK.due("'" + word + "'", count(code, "\\b" + word + "\\b"), 0);
        }
        CHECK.due("lambdas and arrows", count(code, "->"), 0);
        CHECK.due("method references", count(code, "::"), 0);
        CHECK.due("static blocks", count(code, "static \\{"), 0);
        CHECK.due("Exact", count(code, "Exact\\b"), 0);
        CHECK.due("divisions but by a number", count(code, "[/%] *[a-z(]"), 0);
        CHECK.due("joined texts", count(code, "\"\" *\\+|\\+ *\"\""), 0);
        CHECK.due("static fields that are not final", count(code, "(?m)^ ++(private )?static (?!final )[\\w\\[\\]]+ \\w+( =|;)"), 0);
    }

    private static void methods(String code) {
        Set<String> open = new TreeSet<>();
        List<String> others = new ArrayList<>();
        Matcher head = HEAD.matcher(code);
        int found = 0;
        while (head.find()) {
            String name = head.group(4);
            if (Set.of("if", "for", "while", "switch").contains(name)) {
                continue;
            }
            found++;
            if (head.group(2).contains("public") && head.group(3) != null) {
                open.add(name);
            } else {
                others.add(name);
            }
            int parameters = head.group(5).isEmpty() ? 0 : head.group(5).split(",").length;
            CHECK.due("parameters of " + name, parameters <= 7, true);
            int end = code.indexOf("\n" + head.group(1) + "}", head.start());
            int lines = count(code.substring(head.start(), end), "\n");
            CHECK.due("lines of " + name + ": " + lines, lines <= 60, true);
        }
        CHECK.due("methods were found", found > 100, true);
        CHECK.due("public methods", open.size(), 33);
        others.retainAll(open);
        CHECK.due("other methods with a public one's name " + others, others.size(), 0);
    }

    private static void classes(String code) {
        CHECK.due("classes", count(code, "\\bclass \\w+") <= 12, true);
        CHECK.due("classes inside that are not static", count(code, "(?m)^ ++(?!private static final class )[\\w ]*\\bclass "), 0);
        CHECK.due("public classes", count(code, "(?m)^public final class LockedLetter \\{$"), 1);
        CHECK.due("public members", count(code, "(?m)^    public "), 33 + 2);
        CHECK.due("members neither public nor private", count(code, "(?m)^    (?!public |private |})\\S"), 0);
    }

    private static int count(String text, String pattern) {
        Matcher matcher = Pattern.compile(pattern).matcher(text);
        int count = 0;
        while (matcher.find()) {
            count++;
        }
        return count;
    }
}
