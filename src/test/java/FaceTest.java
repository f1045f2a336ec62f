import java.lang.reflect.Constructor;
import java.lang.reflect.Field;
import java.lang.reflect.Method;
import java.lang.reflect.Modifier;
import java.nio.file.Files;
import java.nio.file.Path;
import java.util.HashMap;
import java.util.HashSet;
import java.util.List;
import java.util.Map;
import java.util.Set;

/** The class has the document's face and no more, and keeps to those rules of LANGUAGE.md that a text shows. */
public final class FaceTest {
    private static final String FACE = "int feed(int,int,int,int,int);int text(int);int fault(int);int named(int,int);"
            + "int owner(int,int);int noise(int,int);int claim(int,int);int link(int,int);int far(int,int);"
            + "long law(int,int,int,int);int heard(int,int);long hush(int);int whose(int,int);int spans();"
            + "int span(int,int);int pieces();int piece(int,int);int share(int,int);int part(int,int);"
            + "int leaves(int);int make(int,int,int,int,int);boolean stop(int);boolean wall(int,boolean);"
            + "boolean sell(int,int,int);int go(int);int plan();int planned(int,int);int walls(int,int);"
            + "int bark(int,int);int note(int,int,boolean);int strike(int);boolean known(int);int thieves();"
            + "int thief(int,int);int left(int,int);int rests(int,int,int);int rest(int,int,int,int);"
            + "int year(int,int);int tried(int,int);int undo();int keep();int back();int count(int);";
    private static final Told TOLD = new Told();

    private static String signature(Method method) {
        StringBuilder s = new StringBuilder(method.getReturnType() + " " + method.getName() + "(");
        for (Class<?> type : method.getParameterTypes()) {
            s.append(s.charAt(s.length() - 1) == '(' ? "" : ",").append(type);
        }
        return s.append(")").toString();
    }

    private static void face() {
        Set<String> wanted = new HashSet<>(List.of(FACE.split(";")));
        Class<?> it = OwnedSilence.class;
        TOLD.due("public and final", it.getModifiers(), Modifier.PUBLIC | Modifier.FINAL);
        for (Method method : it.getDeclaredMethods()) {
            boolean isPublic = Modifier.isPublic(method.getModifiers());
            TOLD.due("public or private: " + method, isPublic || Modifier.isPrivate(method.getModifiers())
                    || method.isSynthetic(), true);
            if (isPublic) {
                TOLD.due("in the face: " + signature(method), wanted.remove(signature(method)), true);
            }
        }
        TOLD.due("missing " + wanted, wanted.size(), 0);
        for (Field field : it.getDeclaredFields()) {
            boolean none = field.getName().equals("NONE");
            TOLD.due("private: " + field, Modifier.isPrivate(field.getModifiers()), !none);
        }
        for (Constructor<?> made : it.getDeclaredConstructors()) {
            TOLD.due("the constructor", made.getParameterCount(), 0);
        }
        TOLD.due("NONE", OwnedSilence.NONE, -1);
    }

    private static void classes() {
        Class<?>[] inside = OwnedSilence.class.getDeclaredClasses();
        TOLD.due("at most twelve classes", inside.length <= 11, true);
        Set<String> faces = new HashSet<>();
        for (String one : FACE.split(";")) {
            faces.add(one.replaceAll("^\\w+ (\\w+).*", "$1"));
        }
        Map<Class<?>, Integer> fields = new HashMap<>();
        for (Class<?> one : inside) {
            TOLD.due("static: " + one, Modifier.isStatic(one.getModifiers()), true);
            for (Method method : one.getDeclaredMethods()) {
                TOLD.due("no name of the face: " + method, faces.contains(method.getName()), false);
                TOLD.due("at most seven parameters: " + method, method.getParameterCount() <= 7, true);
            }
            for (Field field : one.getDeclaredFields()) {
                if (Modifier.isStatic(field.getModifiers())) {
                    TOLD.due("static and final: " + field, Modifier.isFinal(field.getModifiers()), true);
                } else {
                    fields.merge(one, 1, Integer::sum);
                }
            }
        }
        fields.forEach((one, many) -> TOLD.due("at most twenty fields: " + one, many <= 20, true));
    }

    private static void source() throws Exception {
        List<String> lines = Files.readAllLines(Path.of("src/main/java/OwnedSilence.java"));
        int begun = 0;
        for (int i = 0; i < lines.size(); i++) {
            String line = lines.get(i);
            for (String ban : List.of("->", "::", "finally", "synchronized", "assert ", "catch", "Exact(", "\" +",
                    "+ \"", ".hashCode", ".toString", "System.out", "System.nano", "System.current", "Random",
                    "Thread", "package ", "double", "float")) {
                TOLD.due("line " + (i + 1) + " has " + ban, line.contains(ban), false);
            }
            if (line.startsWith("import ")) {
                TOLD.due("the only import", line.equals("import java.util.NoSuchElementException;"), true);
            }
            if (line.matches(" {4,8}\\w.*\\) (throws .*)?\\{")) {
                begun = i;
            }
            if (line.matches(" {4,8}}")) {
                TOLD.due("line " + (begun + 1) + " begins a method of at most sixty lines", i - begun <= 60
                        || lines.get(begun).contains("class"), true);
                begun = i;
            }
            TOLD.due("the signs of line " + (i + 1), line.chars().allMatch(c -> c >= 1 && c <= 127), true);
        }
    }

    public static void main(String[] args) throws Exception {
        face();
        classes();
        source();
        TOLD.end();
    }
}
