import java.lang.reflect.Constructor;
import java.lang.reflect.Field;
import java.lang.reflect.Method;
import java.lang.reflect.Modifier;
import java.nio.charset.StandardCharsets;
import java.nio.file.Files;
import java.nio.file.Path;
import java.util.ArrayList;
import java.util.Arrays;
import java.util.List;
import java.util.TreeSet;
import java.util.regex.Matcher;
import java.util.regex.Pattern;

/** The public face is the document's, and the file keeps to those rules of LANGUAGE.md that can be seen from outside. */
public final class FaceTest {
    private static final String SOURCE = "src/main/java/AcreBuys.java";
    private static final Pattern SIGNATURE = Pattern.compile("public (int|long) (\\w+)\\(([^)]*)\\)");

    public static void main(String[] args) throws Exception {
        TreeSet<String> due = faceOfDocument();
        Check.due("methods in the document", due.size(), 40);
        Check.isTrue("the face is " + due + ", is " + faceOfClass(), due.equals(faceOfClass()));
        Check.isTrue("public and final", AcreBuys.class.getModifiers() == (Modifier.PUBLIC | Modifier.FINAL));
        onlyThePublicIsSeen();
        classesInside();
        String code = withoutTexts(Files.readString(Path.of(SOURCE), StandardCharsets.ISO_8859_1));
        forbiddenWords(code);
        lengths(code);
        Check.end();
    }

    private static String signature(String type, String name, String arguments) {
        List<String> types = new ArrayList<>();
        for (String argument : arguments.split(",")) {
            if (!argument.isBlank()) {
                types.add(argument.trim().split(" ")[0]);
            }
        }
        return type + " " + name + types;
    }

    private static TreeSet<String> faceOfDocument() throws Exception {
        TreeSet<String> face = new TreeSet<>();
        String text = Files.readString(Path.of("../shared/DOC.md"), StandardCharsets.UTF_8);
        Matcher m = SIGNATURE.matcher(text);
        while (m.find()) {
            face.add(signature(m.group(1), m.group(2), m.group(3)));
        }
        return face;
    }

    private static TreeSet<String> faceOfClass() {
        TreeSet<String> face = new TreeSet<>();
        for (Method m : AcreBuys.class.getDeclaredMethods()) {
            if (Modifier.isPublic(m.getModifiers())) {
                StringBuilder types = new StringBuilder();
                for (Class<?> type : m.getParameterTypes()) {
                    types.append(type.getName()).append(" x,");
                }
                face.add(signature(m.getReturnType().getName(), m.getName(), types.toString()));
            }
        }
        return face;
    }

    private static void onlyThePublicIsSeen() {
        TreeSet<String> open = new TreeSet<>();
        for (Method m : AcreBuys.class.getDeclaredMethods()) {
            if (Modifier.isPublic(m.getModifiers())) {
                open.add(m.getName());
                Check.isTrue("not static: " + m, !Modifier.isStatic(m.getModifiers()));
            }
        }
        for (Method m : AcreBuys.class.getDeclaredMethods()) {
            boolean isPublic = Modifier.isPublic(m.getModifiers());
            Check.isTrue("public or private: " + m, isPublic || Modifier.isPrivate(m.getModifiers()));
            Check.isTrue("no private name of a public one: " + m, isPublic || !open.contains(m.getName()));
            Check.isTrue("seven parameters: " + m, m.getParameterCount() <= 7);
        }
        for (Field f : AcreBuys.class.getDeclaredFields()) {
            Check.isTrue("private: " + f, Modifier.isPrivate(f.getModifiers()));
        }
        Constructor<?>[] made = AcreBuys.class.getDeclaredConstructors();
        Check.isTrue("one public constructor", made.length == 1 && Modifier.isPublic(made[0].getModifiers()));
    }

    private static void classesInside() {
        Class<?>[] all = AcreBuys.class.getDeclaredClasses();
        Check.isTrue("twelve classes", all.length <= 12);
        Class<?>[] withOuter = Arrays.copyOf(all, all.length + 1);
        withOuter[all.length] = AcreBuys.class;
        for (Class<?> c : withOuter) {
            int fields = 0;
            for (Field f : c.getDeclaredFields()) {
                boolean isStatic = Modifier.isStatic(f.getModifiers());
                Check.isTrue("static is final: " + f, !isStatic || Modifier.isFinal(f.getModifiers()));
                fields += isStatic ? 0 : 1;
            }
            Check.isTrue("twenty fields: " + c, fields <= 20);
            Check.isTrue("static: " + c, c == AcreBuys.class || Modifier.isStatic(c.getModifiers()));
        }
    }

    /** The code alone: comments and texts are no code. */
    private static String withoutTexts(String source) {
        return source.replaceAll("(?s)/\\*.*?\\*/", "").replaceAll("\"[^\"\n]*\"", "\"\"").replaceAll("//[^\n]*", "");
    }

    private static void forbiddenWords(String code) {
        String[] words = {"throw", "throws", "try", "catch", "finally", "synchronized", "assert", "instanceof",
            "volatile", "transient", "package", "protected", "Object", "Random", "System.out", "System.nanoTime",
            "Thread", "float", "double", "->", "::", "Exact", "equals", "hashCode", "toString", "var"};
        for (String word : words) {
            boolean isWord = Character.isLetter(word.charAt(0));
            String border = isWord ? "\\b" : "";
            Pattern p = Pattern.compile(border + Pattern.quote(word) + (word.equals("Exact") || !isWord ? "" : "\\b"));
            Check.isTrue("no " + word, !p.matcher(code).find());
        }
        Matcher imports = Pattern.compile("import ([^;]*);").matcher(code);
        while (imports.find()) {
            Check.isTrue("import of " + imports.group(1), imports.group(1).equals("java.util.Arrays"));
        }
        Matcher library = Pattern.compile("\\b(Integer|Long|Math|System|Arrays|String|List)\\.(\\w+)").matcher(code);
        List<String> used = List.of("Integer.bitCount", "Math.min", "Math.max", "System.arraycopy", "Arrays.fill");
        while (library.find()) {
            Check.isTrue("use of " + library.group(), used.contains(library.group()));
        }
        for (int i = 0; i < code.length(); i++) {
            if (code.charAt(i) > 126) {
                Check.isTrue("a sign above 126 at " + i, false);
            }
        }
    }

    private static void lengths(String code) {
        String[] lines = code.split("\n");
        int opened = -1;
        String opening = "";
        for (int i = 0; i < lines.length; i++) {
            if (lines[i].matches(" {4,8}(private |public ).*\\) \\{")) {
                opened = i;
                opening = lines[i].trim();
            }
            if (opened >= 0 && lines[i].matches(" {4,8}\\}") && indent(lines[i]) == indent(lines[opened])) {
                Check.isTrue("sixty lines: " + opening, i - opened < 60);
                opened = -1;
            }
        }
    }

    private static int indent(String line) {
        return line.length() - line.stripLeading().length();
    }
}
