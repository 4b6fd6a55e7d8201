import java.io.IOException;
import java.lang.reflect.Constructor;
import java.lang.reflect.Field;
import java.lang.reflect.Method;
import java.lang.reflect.Modifier;
import java.nio.charset.StandardCharsets;
import java.nio.file.Files;
import java.nio.file.Path;
import java.util.Arrays;
import java.util.Set;
import java.util.TreeSet;
import java.util.regex.Matcher;
import java.util.regex.Pattern;

/** The rules of ../shared/LANGUAGE.md that can be seen from the class and its source. */
public final class LanguageTest {
    private static final String FACE = "put(int,int):int stage(int,int):int take(int):int "
            + "rekey(int,int):int addSlice(int,int):int dropSlice(int):int detach(int):int "
            + "attach(int,int):int swap(int,boolean):int split(int,int):int merge(int,int):int "
            + "useDefault(boolean):int mend():int set(int,int):int type(char):int clearText():int "
            + "fault():int undo():int keep():int restore():int row(int,int):int slice(int,int):int "
            + "ordered(int):int lies(int,int):int belongs(int):int gap(int,int):int stray(int):int "
            + "count(int):int ask(int):int answer(int):int looksInto(int,int):int passes(int):int "
            + "spared():double unfit(int):int bestSplit(int):int heaviest():int";
    private static final String CONSTANTS = "UNKNOWN BAD_VALUE FULL NOT_POSSIBLE NONE";
    private static final String FORBIDDEN = "->|::|\\b(import|package|try|catch|finally|throw|throws"
            + "|synchronized|assert|protected|native|volatile|transient|null\\s*\\.|instanceof"
            + "|Thread|Random|Object|hashCode|toString|getClass|lambda)\\b";

    public static void main(String[] args) throws IOException {
        Check check = new Check("LanguageTest");
        faceStands(check);
        insideClasses(check);
        sourceStands(check);
        check.end();
    }

    private static void faceStands(Check check) {
        Class<PrunedSlices> face = PrunedSlices.class;
        check.due("the class is public and final", Modifier.PUBLIC | Modifier.FINAL, face.getModifiers());
        Set<String> methods = new TreeSet<>();
        for (Method method : face.getDeclaredMethods()) {
            if (!Modifier.isPrivate(method.getModifiers()) && !method.isSynthetic()) {
                methods.add(told(method));
            }
        }
        check.due("the public methods", new TreeSet<>(Arrays.asList(FACE.split(" "))).toString(), methods.toString());
        Set<String> fields = new TreeSet<>();
        for (Field field : face.getDeclaredFields()) {
            if (!Modifier.isPrivate(field.getModifiers()) && !field.isSynthetic()) {
                fields.add(field.getName());
            }
        }
        check.due("the public fields", new TreeSet<>(Arrays.asList(CONSTANTS.split(" "))).toString(), fields.toString());
        Constructor<?>[] constructors = face.getDeclaredConstructors();
        check.due("one constructor", 1, constructors.length);
        check.due("its parameters", 0, constructors[0].getParameterCount());
        check.due("it is public", 1, Modifier.isPublic(constructors[0].getModifiers()) ? 1 : 0);
    }

    private static String told(Method method) {
        StringBuilder text = new StringBuilder(method.getName()).append('(');
        for (Class<?> type : method.getParameterTypes()) {
            text.append(text.charAt(text.length() - 1) == '(' ? "" : ",").append(type.getName());
        }
        return text.append("):").append(method.getReturnType().getName()).toString();
    }

    private static void insideClasses(Check check) {
        Set<String> names = new TreeSet<>();
        for (String method : FACE.split(" ")) {
            names.add(method.substring(0, method.indexOf('(')));
        }
        Class<?>[] inside = PrunedSlices.class.getDeclaredClasses();
        check.due("at most twelve classes", 1, inside.length < 12 ? 1 : 0);
        for (Class<?> one : inside) {
            int modifiers = one.getModifiers();
            check.due(one + " is static", 1, Modifier.isStatic(modifiers) ? 1 : 0);
            check.due(one + " is hidden", 0, Modifier.isPublic(modifiers) || Modifier.isProtected(modifiers) ? 1 : 0);
            membersAreFew(check, one, names);
        }
        membersAreFew(check, PrunedSlices.class, new TreeSet<>());
        for (Method method : PrunedSlices.class.getDeclaredMethods()) {
            boolean clashes = Modifier.isPrivate(method.getModifiers()) && names.contains(method.getName());
            check.due(method + " has no name of the face", 0, clashes ? 1 : 0);
        }
    }

    private static void membersAreFew(Check check, Class<?> one, Set<String> taken) {
        int fields = 0;
        for (Field field : one.getDeclaredFields()) {
            boolean isStatic = Modifier.isStatic(field.getModifiers());
            fields += isStatic ? 0 : 1;
            check.due(field + " is final if static", 1, !isStatic || Modifier.isFinal(field.getModifiers()) ? 1 : 0);
        }
        check.due(one + " has at most twenty fields", 1, fields <= 20 ? 1 : 0);
        for (Method method : one.getDeclaredMethods()) {
            check.due(method + " has a name of its own", 0, taken.contains(method.getName()) ? 1 : 0);
            check.due(method + " has at most seven parameters", 1, method.getParameterCount() <= 7 ? 1 : 0);
        }
    }

    private static void sourceStands(Check check) throws IOException {
        String source = Files.readString(Path.of("src/main/java/PrunedSlices.java"), StandardCharsets.UTF_8);
        int high = 0;
        for (char sign : source.toCharArray()) {
            high += sign > 126 ? 1 : 0;
        }
        check.due("signs of the source above 126", 0, high);
        String code = source.replaceAll("(?s)/\\*.*?\\*/", "").replaceAll("//[^\\n]*", "");
        Matcher matcher = Pattern.compile(FORBIDDEN).matcher(code);
        while (matcher.find()) {
            check.due("forbidden word " + matcher.group(), 0, 1);
        }
        check.due("texts in the source", -1, code.indexOf('"'));
        onlyTheseLibraryCalls(check, code);
    }

    private static void onlyTheseLibraryCalls(Check check, String code) {
        Matcher matcher = Pattern.compile("\\b(System|Math|Arrays|Integer|Long|String|List)\\b\\.?(\\w*)").matcher(code);
        Set<String> allowed = Set.of("System.arraycopy", "Math.min", "Math.max", "Math.abs");
        while (matcher.find()) {
            check.due("library call " + matcher.group(), 1, allowed.contains(matcher.group()) ? 1 : 0);
        }
    }
}
