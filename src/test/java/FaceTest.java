import java.io.IOException;
import java.lang.reflect.Constructor;
import java.lang.reflect.Field;
import java.lang.reflect.Member;
import java.lang.reflect.Method;
import java.lang.reflect.Modifier;
import java.nio.file.Files;
import java.nio.file.Path;
import java.util.Set;
import java.util.TreeSet;
import java.util.regex.Matcher;
import java.util.regex.Pattern;

/** The public face, and the rules of LANGUAGE.md that a look at the class or its text can tell. */
public final class FaceTest {
    private static final Due DUE = new Due("FaceTest");
    private static final String METHODS = """
        int cylinder(int,int);int twin(int,int);int height(int,int,int,boolean);int heightAt(int,int,int);
        int takeCore(int);int putCore(int);int kind(int);int chambers(int);int weight(int);int blanks(int);
        int key(int,long);int turned(int,int);int cut(int,int);int length(int);int turn(int,int);
        int opens(int,int);int turnAll(int,int);int at();int cabinet(int,int);int put(int,int,int);
        int inside(int,int);int door();int fit(int,int);int person();int lend(int,int);int bringBack(int);
        int lose(int);int found(int);int holder(int);int wish(int,int,int);int work(int,int,int,int);
        int anew(int,int,int,int,int);int trials();long count(int,int,int);int carry(int);int closed(int);
        int endangered(int);int undo();int finding();int trace(int);int told(int)""";

    public static void main(String[] args) throws IOException {
        constants();
        methods();
        membersThatAreNotPublic();
        classesInside();
        objectsShareNothing();
        String source = Files.readString(Path.of("src/main/java/KeyShop.java"));
        words(source);
        methodsAreShort(source);
        DUE.end();
    }

    private static void constants() {
        DUE.same("NONE", KeyShop.NONE, -1);
        DUE.same("BAD", KeyShop.BAD, -2);
        DUE.same("STATE", KeyShop.STATE, -3);
        DUE.same("FULL", KeyShop.FULL, -4);
        DUE.same("UNKNOWN", KeyShop.UNKNOWN, -5);
        DUE.same("public fields", KeyShop.class.getFields().length, 5);
        for (Field field : KeyShop.class.getFields()) {
            int modifiers = field.getModifiers();
            boolean isConstant = Modifier.isStatic(modifiers) && Modifier.isFinal(modifiers);
            DUE.isTrue(field + " is static final int", isConstant && field.getType() == int.class);
        }
    }

    private static void methods() {
        Set<String> due = new TreeSet<>();
        for (String method : METHODS.split(";")) {
            due.add(method.strip());
        }
        Set<String> there = new TreeSet<>();
        for (Method method : KeyShop.class.getDeclaredMethods()) {
            if (Modifier.isPublic(method.getModifiers())) {
                there.add(signature(method));
                DUE.isTrue(method + " is of an object", !Modifier.isStatic(method.getModifiers()));
                DUE.same(method + ": exceptions", method.getExceptionTypes().length, 0);
            }
        }
        DUE.isTrue("the methods are those of the document: " + there, due.equals(there));
        DUE.same("constructors", KeyShop.class.getConstructors().length, 1);
        DUE.same("what it is made with", KeyShop.class.getConstructors()[0].getParameterCount(), 0);
        DUE.isTrue("the class is final", Modifier.isFinal(KeyShop.class.getModifiers()));
    }

    private static String signature(Method method) {
        StringBuilder text = new StringBuilder(method.getReturnType() + " " + method.getName() + "(");
        for (int i = 0; i < method.getParameterCount(); i++) {
            text.append(i == 0 ? "" : ",").append(method.getParameterTypes()[i]);
        }
        return text.append(")").toString();
    }

    private static void membersThatAreNotPublic() {
        for (Method method : KeyShop.class.getDeclaredMethods()) {
            isPublicOrPrivate(method);
        }
        for (Field field : KeyShop.class.getDeclaredFields()) {
            isPublicOrPrivate(field);
        }
        for (Constructor<?> constructor : KeyShop.class.getDeclaredConstructors()) {
            isPublicOrPrivate(constructor);
        }
    }

    private static void isPublicOrPrivate(Member member) {
        int modifiers = member.getModifiers();
        DUE.isTrue(member + " is public or private", Modifier.isPublic(modifiers) || Modifier.isPrivate(modifiers));
    }

    private static void classesInside() {
        Class<?>[] inside = KeyShop.class.getDeclaredClasses();
        DUE.isTrue("some twelve classes at most", inside.length < 14);
        Set<String> face = new TreeSet<>();
        for (Method method : KeyShop.class.getMethods()) {
            if (method.getDeclaringClass() == KeyShop.class) {
                face.add(method.getName());
            }
        }
        methodsOf(KeyShop.class, face);
        for (Class<?> own : inside) {
            DUE.isTrue(own + " is static", Modifier.isStatic(own.getModifiers()));
            methodsOf(own, face);
        }
    }

    private static void methodsOf(Class<?> own, Set<String> face) {
        int fields = 0;
        for (Field field : own.getDeclaredFields()) {
            boolean isStatic = Modifier.isStatic(field.getModifiers());
            fields += isStatic ? 0 : 1;
            DUE.isTrue(field + " is no static state", !isStatic || Modifier.isFinal(field.getModifiers()));
        }
        DUE.isTrue(own + " has some twenty fields at most", fields <= 22);
        for (Method method : own.getDeclaredMethods()) {
            DUE.isTrue(method + " takes at most seven", method.getParameterCount() <= 7);
            boolean isPrivate = Modifier.isPrivate(method.getModifiers());
            DUE.isTrue(method + " bears no name of the face", !isPrivate || !face.contains(method.getName()));
        }
    }

    private static void words(String source) {
        String code = code(source);
        String[] ruledOut = {"throw", "throws", "try", "catch", "finally", "synchronized", "assert", "package",
            "native", "volatile", "\\w+Exact", "Object", "Thread", "Random", "hashCode"};
        for (String word : ruledOut) {
            DUE.isTrue("no word " + word, !Pattern.compile("\\b" + word + "\\b").matcher(code).find());
        }
        code.lines().map(String::strip).filter(line -> line.startsWith("import ")).forEach(line ->
            DUE.isTrue(line + " is of the library",
                line.matches("import java\\.util\\.(ArrayList|List|Arrays|Iterator);")));
        boolean hasLambda = code.lines().map(String::strip)
            .anyMatch(line -> line.contains("->") && !line.startsWith("case ") && !line.startsWith("default "));
        DUE.isTrue("no lambda", !hasLambda);
        DUE.isTrue("no method reference", !code.contains("::"));
        DUE.isTrue("no anonymous class", !Pattern.compile("new \\w+\\([^)]*\\)\\s*\\{").matcher(code).find());
    }

    /** Rule 5: calls on one object are not seen in another one, be it older or newer. */
    private static void objectsShareNothing() {
        String shop = "blanks(9); key(1, 4); cylinder(2, 1); cabinet(0, 1); door(); fit(0, 0); person(); "
            + "wish(0, 0, 1); turn(0, 0); work(1, 1, 1, 9); takeCore(0); cut(0, 9) = -12";
        Run older = new Run("");
        new Run(shop);
        Run newer = new Run("");
        String[] asks = {"at()", "trials()", "finding()", "trace(0)", "undo()", "told(0)", "told(1)", "told(2)",
            "told(3)", "told(4)", "told(5)", "told(6)", "told(7)", "told(8)", "told(9)"};
        int[] atFirst = {-1, 0, 0, -1, -3, 0, 0, 0, 0, 0, 0, 0, 0, 0, -1};
        for (int i = 0; i < asks.length; i++) {
            DUE.same("of an older object: " + asks[i], older.ask(asks[i]), atFirst[i]);
            DUE.same("of a newer object: " + asks[i], newer.ask(asks[i]), atFirst[i]);
        }
    }

    /** Rule 11: a method ends at the brace that stands as far to the right as its first line. */
    private static void methodsAreShort(String source) {
        // no blank may follow the margin, or a method of a class inside would be taken for one of KeyShop
        String header = "^( {4}| {8})(?! )[\\w\\[\\] ]+ \\w+\\([^)]*\\) \\{$";
        Matcher method = Pattern.compile("(?ms)" + header + ".*?^\\1\\}$").matcher(source);
        int methods = 0;
        while (method.find()) {
            methods++;
            String text = method.group();
            DUE.isTrue(text.lines().findFirst().orElse("") + " is short", text.lines().count() <= 60);
        }
        DUE.isTrue("methods were seen: " + methods, methods > 100);
    }

    private static String code(String source) {
        return source.replaceAll("(?s)/\\*.*?\\*/", "").replaceAll("//.*", "");
    }
}
