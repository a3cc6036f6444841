import java.io.IOException;
import java.lang.reflect.Constructor;
import java.lang.reflect.Field;
import java.lang.reflect.Method;
import java.lang.reflect.Modifier;
import java.nio.charset.StandardCharsets;
import java.nio.file.Files;
import java.nio.file.Path;
import java.util.Set;
import java.util.TreeSet;
import java.util.regex.Matcher;
import java.util.regex.Pattern;

/** The public face of the document, and the rules of LANGUAGE.md that a text can be asked for. */
public final class FaceTest {
    private static final Check CHECK = new Check();
    private static final String[] FACE = {
        "boolean hull 3", "boolean pull 2", "int drags 1", "int cart 2", "int clear 0", "int pressed 2", "int worst 1",
        "int gap 0", "int ship 1", "int crosser 1", "boolean times 4", "int waits 0", "int opening 2", "int atOnce 0",
        "boolean level 3", "boolean flood 2", "int out 0", "int outOn 2", "int feed 5", "int end 1", "int tolls 0",
        "int fault 1", "int pass 3", "int about 1"};
    private static final String[] RULED_OUT = {"throw", "throws", "try", "catch", "synchronized", "assert", "protected",
        "Object", "System", "Random", "Thread", "Exception", "instanceof", "native", "volatile"};

    public static void main(String[] args) throws IOException {
        faceIsWhole();
        noOtherNameTwice();
        sizesAreKept();
        sourceKeepsRules();
        CHECK.done();
    }

    private static void faceIsWhole() {
        Class<?> type = BoatBridge.class;
        CHECK.due("public and final", Modifier.isPublic(type.getModifiers()) && Modifier.isFinal(type.getModifiers()),
            true);
        CHECK.due("NONE", BoatBridge.NONE, -1);
        Set<String> found = new TreeSet<>();
        for (Method m : type.getDeclaredMethods()) {
            if (!Modifier.isPrivate(m.getModifiers())) {
                found.add(m.getReturnType() + " " + m.getName() + " " + m.getParameterCount());
            }
        }
        Set<String> wanted = new TreeSet<>(Set.of(FACE));
        CHECK.due("methods " + found, found.equals(wanted), true);
        for (Field f : type.getDeclaredFields()) {
            CHECK.due("field " + f.getName(), Modifier.isPrivate(f.getModifiers()), !f.getName().equals("NONE"));
        }
        Constructor<?>[] makers = type.getDeclaredConstructors();
        CHECK.due("one constructor", makers.length, 1);
        CHECK.due("it is public", Modifier.isPublic(makers[0].getModifiers()), true);
    }

    private static void noOtherNameTwice() {
        Set<String> names = new TreeSet<>();
        for (String line : FACE) {
            names.add(line.split(" ")[1]);
        }
        for (Class<?> inside : BoatBridge.class.getDeclaredClasses()) {
            CHECK.due(inside + " is static", Modifier.isStatic(inside.getModifiers()), true);
            int fields = 0;
            for (Field f : inside.getDeclaredFields()) {
                fields += Modifier.isStatic(f.getModifiers()) ? 0 : 1;
            }
            CHECK.due(inside + " has some twenty fields", fields <= 20, true);
            for (Method m : inside.getDeclaredMethods()) {
                CHECK.due(inside + "'s " + m.getName(), names.contains(m.getName()), false);
            }
        }
    }

    private static void sizesAreKept() {
        Class<?>[] inside = BoatBridge.class.getDeclaredClasses();
        CHECK.due("rule 11: some twelve classes", inside.length + 1 <= 12, true);
        memberSizes(BoatBridge.class);
        for (Class<?> type : inside) {
            memberSizes(type);
        }
    }

    private static void memberSizes(Class<?> type) {
        for (Method m : type.getDeclaredMethods()) {
            CHECK.due("rule 11: parameters of " + m, m.getParameterCount() <= 7, true);
        }
        for (Field f : type.getDeclaredFields()) {
            boolean still = !Modifier.isStatic(f.getModifiers()) || Modifier.isFinal(f.getModifiers());
            CHECK.due("rule 5: " + f, still, true);
        }
    }

    private static void sourceKeepsRules() throws IOException {
        String text = Files.readString(Path.of("src/main/java/BoatBridge.java"), StandardCharsets.UTF_8);
        String code = text.replaceAll("(?s)/\\*.*?\\*/", " ").replaceAll("//[^\n]*", " ");
        for (String word : RULED_OUT) {
            CHECK.due("the word " + word, Pattern.compile("\\b" + word + "\\b").matcher(code).find(), false);
        }
        CHECK.due("no lambda", code.contains("->"), false);
        CHECK.due("no method reference", code.contains("::"), false);
        Matcher imports = Pattern.compile("import ([^;]*);").matcher(code);
        while (imports.find()) {
            CHECK.due("import " + imports.group(1), imports.group(1).equals("java.util.Arrays"), true);
        }
        for (int i = 0; i < text.length(); i++) {
            CHECK.due("character " + i, text.charAt(i) < 128, true);
        }
    }
}
