import java.io.IOException;
import java.lang.reflect.Constructor;
import java.lang.reflect.Field;
import java.lang.reflect.Member;
import java.lang.reflect.Method;
import java.lang.reflect.Modifier;
import java.nio.file.Files;
import java.nio.file.Path;
import java.util.ArrayList;
import java.util.List;
import java.util.Set;
import java.util.TreeSet;
import java.util.regex.Matcher;
import java.util.regex.Pattern;

/** What of LANGUAGE.md can be seen in the class's text and its compiled face. */
public final class FormTest {
    private static final Due DUE = new Due();
    private static final Path SOURCE = Path.of("src/main/java/FoxReply.java");
    private static final String[] FORBIDDEN = {"\\bthrow\\b", "\\bthrows\\b", "\\btry\\b", "\\bcatch\\b",
        "\\bsynchronized\\b", "\\bassert\\b", "->", "::", "\\bObject\\b", "\\bSystem\\.(?!arraycopy)",
        "Exact\\b", "\\bdouble\\b", "\\bfloat\\b", "\\bstatic\\s*\\{", "\\bpackage\\b", "\\bvar\\b",
        "\\bclass\\b[^{]*\\bextends\\b", "\"\\s*\\+", "\\+\\s*\""};
    private static final int MOST_LINES = 60;
    private static final Set<String> LIBRARY = Set.of("Arrays.copyOf", "Arrays.fill", "Integer.bitCount",
            "Long.bitCount", "Math.max", "Math.min", "System.arraycopy");

    public static void main(String[] args) throws IOException {
        String source = Files.readString(SOURCE);
        face();
        classes();
        text(source);
        methodLengths(source);
        DUE.close();
    }

    private static void is(String what, boolean holds) {
        DUE.due(what, holds ? 1 : 0, 1);
    }

    private static boolean isHidden(Member member) {
        return Modifier.isPrivate(member.getModifiers()) || member.isSynthetic();
    }

    private static void face() {
        is("public final", Modifier.isPublic(FoxReply.class.getModifiers())
                && Modifier.isFinal(FoxReply.class.getModifiers()));
        for (Method method : FoxReply.class.getDeclaredMethods()) {
            if (!isHidden(method)) {
                is(method + " is public", Modifier.isPublic(method.getModifiers()));
                is(method + " answers int", method.getReturnType() == int.class);
                for (Class<?> type : method.getParameterTypes()) {
                    is(method + " takes int", type == int.class);
                }
            }
        }
        for (Field field : FoxReply.class.getDeclaredFields()) {
            is(field + " is hidden", isHidden(field) || field.getName().equals("NONE"));
        }
        Constructor<?>[] constructors = FoxReply.class.getDeclaredConstructors();
        is("one constructor", constructors.length == 1 && constructors[0].getParameterCount() == 0
                && Modifier.isPublic(constructors[0].getModifiers()));
    }

    private static void classes() {
        Set<String> taken = new TreeSet<>();
        for (Method method : FoxReply.class.getMethods()) {
            taken.add(method.getName());
        }
        List<Class<?>> all = new ArrayList<>(List.of(FoxReply.class.getDeclaredClasses()));
        is("some twelve classes", all.size() < 12);
        for (Class<?> inside : all) {
            is(inside + " is static", Modifier.isStatic(inside.getModifiers()));
            is(inside + " is not shown", !Modifier.isPublic(inside.getModifiers()));
            for (Method method : inside.getDeclaredMethods()) {
                is(method + " bears a name of its own", !taken.contains(method.getName()));
            }
        }
        all.add(FoxReply.class);
        for (Class<?> each : all) {
            int fields = 0;
            for (Field field : each.getDeclaredFields()) {
                boolean isStatic = Modifier.isStatic(field.getModifiers());
                fields += isStatic ? 0 : 1;
                is(field + " is final", !isStatic || Modifier.isFinal(field.getModifiers()));
            }
            is(each + " has some twenty fields", fields <= 20);
            for (Method method : each.getDeclaredMethods()) {
                is(method + " takes seven at most", method.getParameterCount() <= 7);
            }
        }
    }

    private static String withoutComments(String source) {
        return source.replaceAll("(?s)/\\*.*?\\*/", "").replaceAll("//[^\n]*", "");
    }

    private static void text(String source) {
        String code = withoutComments(source);
        for (String pattern : FORBIDDEN) {
            Matcher matcher = Pattern.compile(pattern).matcher(code);
            is("no " + pattern, !matcher.find());
        }
        Matcher imports = Pattern.compile("import ([\\w.]+);").matcher(code);
        while (imports.find()) {
            is(imports.group(1), List.of("java.util.Arrays", "java.util.ArrayList", "java.util.List")
                    .contains(imports.group(1)));
        }
        Matcher library = Pattern.compile("\\b(Arrays|Integer|Long|Math|System|String|List)\\.(\\w+)").matcher(code);
        while (library.find()) {
            is(library.group() + " is of the library", LIBRARY.contains(library.group()));
        }
        for (int i = 0; i < source.length(); i++) {
            if (source.charAt(i) > 127) {
                is("signs 1 to 127", false);
            }
        }
    }

    /** A method of a class inside stands eight deep, one of the class itself four. */
    private static void methodLengths(String source) {
        String[] lines = source.split("\n");
        Pattern begin = Pattern.compile("^( {4}| {8})(?! )[^=;@*/]*\\(.*\\) \\{$");
        for (int i = 0; i < lines.length; i++) {
            Matcher matcher = begin.matcher(lines[i]);
            if (matcher.find() && !lines[i].trim().matches("(if|for|while|switch|else|\\}).*")) {
                int end = i;
                while (end < lines.length && !lines[end].equals(matcher.group(1) + "}")) {
                    end++;
                }
                is("some sixty lines: " + lines[i].trim(), end - i < MOST_LINES);
            }
        }
    }
}
