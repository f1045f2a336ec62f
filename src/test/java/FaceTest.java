import java.io.PrintWriter;
import java.io.StringWriter;
import java.lang.reflect.Array;
import java.lang.reflect.Constructor;
import java.lang.reflect.Field;
import java.lang.reflect.Method;
import java.lang.reflect.Modifier;
import java.nio.file.Files;
import java.nio.file.Path;
import java.util.ArrayList;
import java.util.HashMap;
import java.util.HashSet;
import java.util.IdentityHashMap;
import java.util.List;
import java.util.Map;
import java.util.Set;
import java.util.regex.Matcher;
import java.util.regex.Pattern;
import java.util.spi.ToolProvider;

/** The class has the document's face and no more, and keeps to those rules of LANGUAGE.md that a text shows. */
public final class FaceTest {
    private static final String FACE = "int feed(int,int,int,int,int);int text(int);int fault(int);int named(int,int);"
            + "int owner(int,int);int noise(int,int);int claim(int,int);int link(int,int);int far(int,int);"
            + "long law(int,int,int,int);int heard(int,int);long hush(int);int whose(int,int);int spans();"
            + "int span(int,int);int pieces();int piece(int,int);int share(int,int);int part(int,int);"
            + "int leaves(int);int make(int,int,int,int,int);boolean stop(int);boolean wall(int,boolean);"
            + "boolean sell(int,int,int);int go(int);int plan();int planned(int,int);int walls(int,int);"
            + "int bark(int,int);int note(int,int,boolean);int strike(int);boolean known(int);int thieves();"
            + "int thief(int,int);int left(int,int);int rests(int,int,int);int rest(int,int,int,int);"
            + "int year(int,int);int tried(int,int);int undo();int keep();int back();int count(int);";
    private static final Told TOLD = new Told();

    private static String signature(Method method) {
        StringBuilder s = new StringBuilder(method.getReturnType() + " " + method.getName() + "(");
        for (Class<?> type : method.getParameterTypes()) {
            s.append(s.charAt(s.length() - 1) == '(' ? "" : ",").append(type);
        }
        return s.append(")").toString();
    }

    private static void face() {
        Set<String> wanted = new HashSet<>(List.of(FACE.split(";")));
        Class<?> it = OwnedSilence.class;
        TOLD.due("public and final", it.getModifiers(), Modifier.PUBLIC | Modifier.FINAL);
        for (Method method : it.getDeclaredMethods()) {
            boolean isPublic = Modifier.isPublic(method.getModifiers());
            TOLD.due("private by another name than a public one: " + method,
                    isPublic || method.isSynthetic() || !FACE.contains(" " + method.getName() + "("), true);
            TOLD.due("public or private: " + method, isPublic || Modifier.isPrivate(method.getModifiers())
                    || method.isSynthetic(), true);
            if (isPublic) {
                TOLD.due("in the face: " + signature(method), wanted.remove(signature(method)), true);
            }
        }
        TOLD.due("missing " + wanted, wanted.size(), 0);
        for (Field field : it.getDeclaredFields()) {
            boolean none = field.getName().equals("NONE");
            TOLD.due("private: " + field, Modifier.isPrivate(field.getModifiers()), !none);
        }
        for (Constructor<?> made : it.getDeclaredConstructors()) {
            TOLD.due("the constructor", made.getParameterCount(), 0);
        }
        TOLD.due("NONE", OwnedSilence.NONE, -1);
    }

    private static void classes() {
        Class<?>[] inside = OwnedSilence.class.getDeclaredClasses();
        TOLD.due("at most twelve classes", inside.length <= 11, true);
        Set<String> faces = new HashSet<>();
        for (String one : FACE.split(";")) {
            faces.add(one.replaceAll("^\\w+ (\\w+).*", "$1"));
        }
        Map<Class<?>, Integer> fields = new HashMap<>();
        for (Class<?> one : inside) {
            TOLD.due("static: " + one, Modifier.isStatic(one.getModifiers()), true);
            for (Method method : one.getDeclaredMethods()) {
                TOLD.due("no name of the face: " + method, faces.contains(method.getName()), false);
                TOLD.due("at most seven parameters: " + method, method.getParameterCount() <= 7, true);
            }
            for (Field field : one.getDeclaredFields()) {
                if (Modifier.isStatic(field.getModifiers())) {
                    TOLD.due("static and final: " + field, Modifier.isFinal(field.getModifiers()), true);
                } else {
                    fields.merge(one, 1, Integer::sum);
                }
            }
        }
        fields.forEach((one, many) -> TOLD.due("at most twenty fields: " + one, many <= 20, true));
    }

    private static void source() throws Exception {
        List<String> lines = Files.readAllLines(Path.of("src/main/java/OwnedSilence.java"));
        int begun = 0;
        for (int i = 0; i < lines.size(); i++) {
            String line = lines.get(i);
            for (String ban : List.of("->", "::", "finally", "synchronized", "assert ", "catch", "Exact(", "\" +",
                    "+ \"", ".hashCode", ".toString", "System.out", "System.nano", "System.current", "Random",
                    "Thread", "package ", "double", "float")) {
                TOLD.due("line " + (i + 1) + " has " + ban, line.contains(ban), false);
            }
            if (line.startsWith("import ")) {
                TOLD.due("the only import", line.equals("import java.util.NoSuchElementException;"), true);
            }
            if (line.matches(" {4,8}\\w.*\\) (throws .*)?\\{")) {
                begun = i;
            }
            if (line.matches(" {4,8}}")) {
                TOLD.due("line " + (begun + 1) + " begins a method of at most sixty lines", i - begun <= 60
                        || lines.get(begun).contains("class"), true);
                begun = i;
            }
            TOLD.due("the signs of line " + (i + 1), line.chars().allMatch(c -> c >= 1 && c <= 127), true);
        }
    }

    // rule 12: rows are made in constructors and used again, so a call makes nothing but what it throws
    private static void made() throws Exception {
        for (String line : Files.readAllLines(Path.of("src/main/java/OwnedSilence.java"))) {
            if (line.contains("new ") && !line.trim().startsWith("*")) {
                boolean once = line.matches("    (    )?private (final )?\\w+(\\[])? \\w+ = new .*;");
                TOLD.due("made once: " + line.trim(), once || line.contains("throw new ") || line.contains("this.cells = "), true);
            }
        }
    }

    /** What javap tells of the compiled class and the classes inside it. */
    private static String compiled() {
        ToolProvider javap = ToolProvider.findFirst("javap").orElse(null);
        TOLD.due("javap is there", javap != null, true);
        StringWriter text = new StringWriter();
        List<String> args = new ArrayList<>(List.of("-p", "-c", "-cp", System.getProperty("java.class.path"), "OwnedSilence"));
        for (Class<?> one : OwnedSilence.class.getDeclaredClasses()) {
            args.add(one.getName());
        }
        TOLD.due("javap ends well", javap.run(new PrintWriter(text), new PrintWriter(text), args.toArray(new String[0])), 0);
        return text.toString();
    }

    // rule 11: "calls that are no recursion go at most eight deep"; and there is no recursion at all
    private static void depth(String compiled) {
        Map<String, Set<String>> calls = callsOf(compiled);
        TOLD.due("methods are found", calls.size() > 100, true);
        for (String method : calls.keySet()) {
            TOLD.due("at most eight deep: " + method, depthOf(method, calls, 0) <= 8, true);
        }
    }

    // rule 4: "The library: only what stands here", of which the class needs but this
    private static void library(String compiled) {
        Set<String> allowed = Set.of("String.length", "String.charAt", "String.indexOf", "System.arraycopy",
                "Integer.bitCount", "Long.bitCount", "Math.min", "Math.max");
        Matcher m = Pattern.compile("// (?:Interface)?Method java/\\w+/([\\w.]+|\\w+\\.\"<init>\"):").matcher(compiled);
        int many = 0;
        while (m.find()) {
            String asked = m.group(1);
            boolean made = Set.of("Object.\"<init>\"", "IndexOutOfBoundsException.\"<init>\"",
                    "NoSuchElementException.\"<init>\"").contains(asked);
            TOLD.due("of the library: " + asked, made || allowed.contains(asked), true);
            many++;
        }
        TOLD.due("the library is asked as often as javap tells", many, compiled.split("Method java/", -1).length - 1);
        TOLD.due("no call is put together while it runs", compiled.contains("InvokeDynamic"), false);
    }

    // "All calls of one run live in ONE room": what an object is made of is little, and no call adds to it
    private static void room() throws Exception {
        OwnedSilence x = Told.of("place a;place b;link a b 2;owner x 9;owner y 9;heir x y;noise a x 0 9 3;"
                + "claim y b 5 20;task x a 3 4;dog a 9;dog b 9;law fade loud-far*minute/3;law worth long*many;");
        long before = sizeOf(x, new IdentityHashMap<>());
        for (int i = 0; i < 20; i++) {
            x.make(0, 1, i, i + 3, 9);
            x.wall(0, i % 2 == 0);
            x.sell(0, i % 2, 1);
            x.note(0, i, true);
            x.tried(0, 0);
            x.year(i, 20);
            x.walls(0, 1);
            x.part(0, 1);
            x.plan();
            x.left(0, 1);
            x.bark(3, 0);
            x.thieves();
            x.rests(9, 1, 2);
            x.keep();
            x.back();
            Told.tell(x, "place a;owner");
        }
        TOLD.due("what an object is made of", before > 1000 && before < 12000, true);
        TOLD.due("what it is made of behind many calls", sizeOf(x, new IdentityHashMap<>()), before);
    }

    /** How many objects, fields and elements can be reached from one. */
    private static long sizeOf(Object one, Map<Object, Object> seen) throws Exception {
        if (one == null || seen.put(one, one) != null) {
            return 0;
        }
        if (one.getClass().isArray()) {
            return 1 + Array.getLength(one);
        }
        long size = 1;
        for (Field field : one.getClass().getDeclaredFields()) {
            if (!Modifier.isStatic(field.getModifiers())) {
                field.setAccessible(true);
                size += 1 + (field.getType().isPrimitive() ? 0 : sizeOf(field.get(one), seen));
            }
        }
        return size;
    }

    private static Map<String, Set<String>> callsOf(String text) {
        Map<String, Set<String>> calls = new HashMap<>();
        Pattern begins = Pattern.compile("^(?:[\\w ]+ )?class (\\S+) .*");
        Pattern method = Pattern.compile("^  [^(]*?([\\w$.]+)\\([^)]*\\).*;$");
        Pattern call = Pattern.compile(".*// Method (?:([\\w$/]+)\\.)?\"?([\\w<>]+)\"?:.*");
        String owner = "";
        Set<String> asked = new HashSet<>();
        for (String line : text.split("\\R")) {
            Matcher m = begins.matcher(line);
            if (m.matches()) {
                owner = m.group(1);
            }
            m = method.matcher(line);
            if (m.matches()) {
                String name = m.group(1).equals(owner) ? "<init>" : m.group(1);
                asked = calls.computeIfAbsent(owner + "." + name, k -> new HashSet<>());
            }
            m = call.matcher(line);
            if (m.matches()) {
                asked.add((m.group(1) == null ? owner : m.group(1)) + "." + m.group(2));
            }
        }
        return calls;
    }

    /** How many calls stand open at once below this one, it too; what isn't of this file counts nothing. */
    private static int depthOf(String method, Map<String, Set<String>> calls, int above) {
        if (!calls.containsKey(method) || above > 20) {
            return above > 20 ? 1000 : 0;
        }
        int deepest = 0;
        for (String next : calls.get(method)) {
            deepest = Math.max(deepest, depthOf(next, calls, above + 1));
        }
        return deepest + 1;
    }

    public static void main(String[] args) throws Exception {
        face();
        classes();
        source();
        made();
        String compiled = compiled();
        depth(compiled);
        library(compiled);
        room();
        TOLD.end();
    }
}
