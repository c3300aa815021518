import java.lang.reflect.Constructor;
import java.lang.reflect.Field;
import java.lang.reflect.Method;
import java.lang.reflect.Modifier;
import java.nio.file.Files;
import java.nio.file.Path;
import java.util.ArrayList;
import java.util.Arrays;
import java.util.HashSet;
import java.util.List;
import java.util.Set;
import java.util.TreeSet;

/** The face is the document's and no more, and the plainest of the language's rules hold. */
public final class FaceTest {
    private static final String[] FACE = {"feed(int,int,int,int,int)int", "goods(int)int", "fault()int", "count(int)int",
        "sort(int,int)int", "bin(int,int)int", "rule(int)int", "into(int,int)int", "guaranteed(int)int", "bound(int)int",
        "split(int)int", "step(int)int", "patterns(int)int", "pattern(int,int)int", "tree(int)int", "best(int,int)int",
        "net(int)int", "high(int,int)int", "pack(int,int)int", "put(int,int)int", "take(int,int)int", "rest(int,int)int",
        "load()int", "join(int,int)int", "undo()int", "topUp(int,int)int", "toHold(int)int", "spare(int)int",
        "note(int,int)int", "other(int)int", "look(int)int", "forget()void", "odds(int,int)int",
        "years(int,int,int,int)int", "image()void", "restore()boolean"};
    private static int wrong = 0;

    public static void main(String[] args) throws Exception {
        face();
        members(BinProver.class);
        for (Class<?> inside : BinProver.class.getDeclaredClasses()) {
            due(inside + " is static", Modifier.isStatic(inside.getModifiers()));
            due(inside + " is not public", !Modifier.isPublic(inside.getModifiers()));
            members(inside);
        }
        due("at most twelve classes", BinProver.class.getDeclaredClasses().length < 12);
        source(Files.readAllLines(Path.of("src/main/java/BinProver.java")));
        System.out.println(wrong == 0 ? "the face is as told" : wrong + " rules are broken");
        System.exit(wrong == 0 ? 0 : 1);
    }

    private static void due(String rule, boolean holds) {
        if (!holds) {
            wrong++;
            System.out.println("not so: " + rule);
        }
    }

    private static void face() throws Exception {
        Set<String> got = new TreeSet<>();
        for (Method m : BinProver.class.getDeclaredMethods()) {
            if (!Modifier.isPrivate(m.getModifiers()) && !m.isSynthetic()) {
                due(m + " is public", Modifier.isPublic(m.getModifiers()) && !Modifier.isStatic(m.getModifiers()));
                StringBuilder name = new StringBuilder();
                for (Class<?> type : m.getParameterTypes()) {
                    name.append(name.length() > 0 ? "," : "").append(type);
                }
                got.add(m.getName() + "(" + name + ")" + m.getReturnType());
            }
        }
        due("the methods are " + Arrays.toString(FACE) + ", not " + got, got.equals(new TreeSet<>(Arrays.asList(FACE))));
        Constructor<?>[] made = BinProver.class.getDeclaredConstructors();
        due("one public constructor", made.length == 1 && Modifier.isPublic(made[0].getModifiers())
                && made[0].getParameterCount() == 0);
        due("the class is final", Modifier.isFinal(BinProver.class.getModifiers()));
        due("NONE is a constant", Modifier.isFinal(BinProver.class.getField("NONE").getModifiers()));
    }

    private static void members(Class<?> some) {
        Set<String> face = new HashSet<>();
        for (String method : FACE) {
            face.add(method.substring(0, method.indexOf('(')));
        }
        int fields = 0;
        for (Field field : some.getDeclaredFields()) {
            boolean isStatic = Modifier.isStatic(field.getModifiers());
            fields += isStatic ? 0 : 1;
            due(field + " is final", !isStatic || Modifier.isFinal(field.getModifiers()));
            due(field + " is private", some != BinProver.class || Modifier.isPrivate(field.getModifiers())
                    || field.getName().equals("NONE"));
        }
        due(some + " has some twenty fields", fields <= 20);
        for (Method m : some.getDeclaredMethods()) {
            due(m + " has at most seven parameters", m.getParameterCount() <= 7);
            due(m + " has no name of the face", some == BinProver.class && Modifier.isPublic(m.getModifiers())
                    || !face.contains(m.getName()));
        }
    }

    private static void source(List<String> lines) {
        List<String> imports = new ArrayList<>();
        int inMethod = 0;
        for (String line : lines) {
            if (line.startsWith("import")) {
                imports.add(line);
            }
            for (String word : new String[] {"catch", "try ", "finally", "->", "::", "synchronized", "assert", "instanceof",
                "float", "double", "System.out", "static {", "hashCode", "Exact"}) {
                due("without " + word + ": " + line.trim(), line.contains("*") || !line.contains(word));
            }
            inMethod = line.matches("( {4}| {8})[a-z].*\\(.*\\{") ? 1 : inMethod + 1;
            if (line.matches("( {4}| {8})\\}")) {
                due("a method of at most sixty lines ends here: " + inMethod, inMethod <= 60 || line.equals("    }"));
                inMethod = 0;
            }
        }
        due("one import", imports.equals(List.of("import java.util.NoSuchElementException;")));
    }
}
