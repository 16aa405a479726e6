import java.io.IOException;
import java.lang.reflect.Constructor;
import java.lang.reflect.Field;
import java.lang.reflect.Method;
import java.lang.reflect.Modifier;
import java.nio.file.Files;
import java.nio.file.Path;
import java.util.ArrayList;
import java.util.Arrays;
import java.util.Collections;
import java.util.List;
import java.util.regex.Matcher;
import java.util.regex.Pattern;

/** What of ../shared/LANGUAGE.md a machine can see easily: the face, and words that the rules forbid. Runs in the project's folder. */
public final class LanguageTest {
    private static final Checks CHECKS = new Checks();
    private static final String[] FACE = {"int owner(int,int,int,int)", "boolean digs(int,int)", "boolean rebate(int,int)",
        "boolean breaker(int,boolean)", "int ship(int,int)", "boolean keels(int)", "int winds(int,int)", "boolean city(int,int,int)",
        "int feed(long,long,long)", "int pact()", "int law()", "int days(int)", "int price(int)", "int report(int,int,int,int)",
        "int known(int,int,int,int)", "int proved(int,int,int)", "int fine(int,int)", "int sale(int,int,int)", "int named(int)",
        "int whatIf(int,int,int)", "int tempted(int,int,int)", "int slide(int,int)", "int tried(int)", "int best(int)",
        "int foretold(boolean)", "int look(int,int)", "int month(int,int,int)", "int lies(int,int)", "int load(int,int)",
        "int count(int)"};
    private static final String[] FORBIDDEN = {"->", "::", "Exact\\s*\\(", "\\bfinally\\b", "\\bsynchronized\\b", "\\bassert\\b",
        "\\bcatch\\b", "\\bprotected\\b", "\\bpackage\\b", "static\\s*\\{", "\\bSystem\\.(?!arraycopy)", "\\bString\\.",
        "\\bThread\\b", "\\bObject\\b", "\\bequals\\b", "\\bhashCode\\b", "\\btoString\\b", "\\binstanceof\\b", "\\bvar\\b",
        "\\bMath\\.(?!max|min|abs|floorDiv|floorMod)", "\\bArrays\\.(?!copyOf|copyOfRange|fill)", "\"\\s*\\+", "\\+\\s*\""};

    private LanguageTest() {
    }

    private static String typed(Method method) {
        StringBuilder text = new StringBuilder(method.getReturnType() + " " + method.getName() + "(");
        for (Class<?> type : method.getParameterTypes()) {
            text.append(text.charAt(text.length() - 1) == '(' ? "" : ",").append(type);
        }
        return text.append(')').toString();
    }

    private static void face() {
        List<String> open = new ArrayList<>();
        List<String> names = new ArrayList<>();
        for (Method method : CoalVend.class.getDeclaredMethods()) {
            if (!Modifier.isPrivate(method.getModifiers())) {
                CHECKS.due(method + " is public", true, Modifier.isPublic(method.getModifiers()));
                open.add(typed(method));
                names.add(method.getName());
            }
        }
        List<String> want = new ArrayList<>(Arrays.asList(FACE));
        Collections.sort(want);
        Collections.sort(open);
        CHECKS.due("the face is " + open, true, want.equals(open));
        for (Field field : CoalVend.class.getDeclaredFields()) {
            boolean none = field.getName().equals("NONE");
            CHECKS.due(field + " is private", true, none || Modifier.isPrivate(field.getModifiers()));
        }
        for (Constructor<?> constructor : CoalVend.class.getDeclaredConstructors()) {
            CHECKS.due("the constructor is public", true, Modifier.isPublic(constructor.getModifiers()));
        }
        for (Class<?> inner : CoalVend.class.getDeclaredClasses()) {
            CHECKS.due(inner + " is static", true, Modifier.isStatic(inner.getModifiers()));
            for (Method method : inner.getDeclaredMethods()) {
                CHECKS.due(method + " has no name of the face", false, names.contains(method.getName()));
                CHECKS.due(method + " has seven parameters at most", true, method.getParameterCount() <= 7);
            }
            noStaticState(inner);
            fewFields(inner);
        }
        for (Method method : CoalVend.class.getDeclaredMethods()) {
            boolean hidden = Modifier.isPrivate(method.getModifiers());
            CHECKS.due(method + " has no name of the face", false, hidden && names.contains(method.getName()));
            CHECKS.due(method + " has seven parameters at most", true, method.getParameterCount() <= 7);
        }
        noStaticState(CoalVend.class);
        fewFields(CoalVend.class);
        CHECKS.due("some twelve classes", true, CoalVend.class.getDeclaredClasses().length <= 12);
    }

    private static void noStaticState(Class<?> type) {
        for (Field field : type.getDeclaredFields()) {
            int modifiers = field.getModifiers();
            CHECKS.due(field + " is final", true, !Modifier.isStatic(modifiers) || Modifier.isFinal(modifiers));
        }
    }

    private static void fewFields(Class<?> type) {
        int fields = 0;
        for (Field field : type.getDeclaredFields()) {
            fields += Modifier.isStatic(field.getModifiers()) ? 0 : 1;
        }
        CHECKS.due(type + " has some twenty fields", true, fields <= 20);
    }

    /** A method's last line is the first brace that stands as far to the left as its first line. */
    private static void shortMethods() throws IOException {
        List<String> lines = Files.readAllLines(Path.of("src/main/java/CoalVend.java"));
        Pattern head = Pattern.compile("( {4,8})(?!if|else|for|while|do|switch|return|new)[a-zA-Z].*\\).*\\{");
        int methods = 0;
        for (int i = 0; i < lines.size(); i++) {
            Matcher found = head.matcher(lines.get(i));
            if (found.matches()) {
                int end = lines.subList(i, lines.size()).indexOf(found.group(1) + "}");
                CHECKS.due("sixty lines hold" + lines.get(i), true, end > 0 && end < 60);
                methods++;
            }
        }
        CHECKS.due("methods were found", true, methods > 100);
    }

    private static void words() throws IOException {
        String source = Files.readString(Path.of("src/main/java/CoalVend.java"));
        for (int i = 0; i < source.length(); i++) {
            CHECKS.due("sign " + i, true, source.charAt(i) < 127);
        }
        String code = source.replaceAll("(?s)/\\*.*?\\*/", "").replaceAll("//[^\n]*", "");
        Matcher imports = Pattern.compile("import ([^;]*);").matcher(code);
        while (imports.find()) {
            String name = imports.group(1);
            CHECKS.due("import " + name, true, List.of("java.util.Arrays", "java.util.NoSuchElementException").contains(name));
        }
        for (String word : FORBIDDEN) {
            Matcher found = Pattern.compile(word).matcher(code);
            CHECKS.due("forbidden " + word, false, found.find());
        }
    }

    public static void main(String[] args) throws IOException {
        face();
        shortMethods();
        words();
        CHECKS.finish();
    }
}
