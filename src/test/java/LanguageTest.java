import java.io.IOException;
import java.lang.reflect.Constructor;
import java.lang.reflect.Field;
import java.lang.reflect.Method;
import java.lang.reflect.Modifier;
import java.nio.file.Files;
import java.nio.file.Path;
import java.util.ArrayList;
import java.util.List;
import java.util.Map;
import java.util.Set;
import java.util.TreeMap;
import java.util.TreeSet;
import java.util.regex.Matcher;
import java.util.regex.Pattern;

/** The rules of ../shared/LANGUAGE.md that can be seen from the source and from the compiled class. */
public final class LanguageTest {
    private static final String FACE = "town(int,int,int)int full(int,boolean)boolean home(int,int,int)int beds(int)boolean "
            + "family(int,int)int wish(int,int)boolean apart(int,int,int)boolean record(int,int,int,int,int)int alike(int,int)int "
            + "match(int)int rivals(int)int join(int,int)int part(int)int same(int,int)boolean seek(int,int,int)boolean "
            + "finds(int,int)int kin(int)int mutual(int)int feed(int,int,int,int,int)int end(int)boolean fault()int sheet()int "
            + "strike(int)boolean why(int,int)int rank(int,int)int lack(int)int bar(int,int)int place()int passed(int,int)int "
            + "move(int,int)int leave(int)boolean go(int)int night(int,int)int lead(int,int)int beyond()int ends(int)int "
            + "show(int,int,int)int best(int,int,int)int boat(int,int,int)int foretell(int,int)int worst(int,int)int "
            + "beside(int)int check(int,int,int)int ended(int,int)int told(int,int)int is(int,int)int count(int)int";
    private static final String[] BANNED = {"throw", "throws", "try", "catch", "finally", "synchronized", "assert", "import",
        "package", "instanceof", "native", "volatile", "transient", "yield", "var", "equals", "hashCode", "toString", "Object",
        "System", "Thread", "Integer.MIN_VALUE", "Exact"};
    private static final Set<String> LIBRARY = Set.of("Math.abs", "Math.min", "Math.max", "Integer.bitCount");

    private static final List<String> wrong = new ArrayList<>();
    private static int seen;

    private static void due(String what, boolean holds) {
        seen++;
        if (!holds) wrong.add(what);
    }

    public static void main(String[] args) throws IOException {
        String source = Files.readString(Path.of(System.getProperty("source", "src/main/java/BedOffice.java")));
        due("signs 1 to 127 alone", source.chars().allMatch(c -> c >= 1 && c <= 127));
        String code = source.replaceAll("(?s)/\\*.*?\\*/", "").replaceAll("//[^\n]*", "");
        String bare = code.replaceAll("\"[^\"\n]*\"", "\"\"").replaceAll("'(\\\\.|[^'\\\\])'", "' '");
        face();
        classes();
        words(bare);
        methods(bare);
        for (String line : wrong) System.out.println(line);
        System.out.println("LanguageTest: " + (seen - wrong.size()) + " rules kept, " + wrong.size() + " not");
        if (!wrong.isEmpty()) System.exit(1);
    }

    private static void face() {
        Set<String> want = new TreeSet<>(Set.of(FACE.split(" ")));
        Set<String> got = new TreeSet<>();
        for (Method m : BedOffice.class.getDeclaredMethods()) {
            if (Modifier.isPrivate(m.getModifiers())) {
                due("private method with a public name: " + m.getName(), !FACE.matches("(.* )?" + m.getName() + "\\(.*"));
                continue;
            }
            StringBuilder face = new StringBuilder(m.getName()).append('(');
            for (Class<?> p : m.getParameterTypes()) face.append(face.charAt(face.length() - 1) == '(' ? "" : ",").append(p);
            got.add(face.append(')').append(m.getReturnType()).toString());
            due("public and not static: " + m, m.getModifiers() == Modifier.PUBLIC);
        }
        due("the methods of the face: " + got, got.equals(want));
        due("public and final", BedOffice.class.getModifiers() == (Modifier.PUBLIC | Modifier.FINAL));
        Constructor<?>[] made = BedOffice.class.getDeclaredConstructors();
        due("one public constructor", made.length == 1 && made[0].getModifiers() == Modifier.PUBLIC);
        for (Field f : BedOffice.class.getDeclaredFields()) {
            due("hidden field " + f.getName(), f.getName().equals("NONE") || Modifier.isPrivate(f.getModifiers()));
        }
    }

    private static void classes() {
        Class<?>[] inside = BedOffice.class.getDeclaredClasses();
        due("some twelve classes", inside.length + 1 <= 12);
        for (Class<?> c : inside) {
            due("static class " + c, Modifier.isStatic(c.getModifiers()));
            fields(c);
            for (Method m : c.getDeclaredMethods()) {
                due("public name inside: " + m, !FACE.matches("(.* )?" + m.getName() + "\\(.*"));
                due("seven parameters: " + m, m.getParameterCount() <= 7);
            }
        }
        fields(BedOffice.class);
    }

    private static void fields(Class<?> c) {
        int own = 0;
        for (Field f : c.getDeclaredFields()) {
            if (Modifier.isStatic(f.getModifiers())) {
                due("final " + f, Modifier.isFinal(f.getModifiers()));
                due("a constant " + f, f.getType() == int.class || f.getType() == long.class || f.getType() == String.class);
            } else {
                own++;
            }
        }
        due("some twenty fields in " + c, own <= 20);
    }

    private static void words(String bare) {
        for (String word : BANNED) {
            due("no " + word, !Pattern.compile("\\b" + Pattern.quote(word) + "\\b").matcher(bare).find());
        }
        due("no lambda, no method reference", !bare.contains("->") && !bare.contains("::"));
        due("no text is joined by +", !bare.matches("(?s).*(\"\"\\s*\\+|\\+\\s*\"\").*"));
        due("no static block", !bare.matches("(?s).*static\\s*\\{.*"));
        Matcher call = Pattern.compile("\\b(Math|Integer|Long|String|Arrays|StringBuilder|Boolean|Character)\\.(\\w+)").matcher(bare);
        while (call.find()) due("library: " + call.group(), LIBRARY.contains(call.group()));
    }

    private static void methods(String bare) {
        Matcher head = Pattern.compile("(?m)^( {4}| {8})(?! )[\\w ]*?[\\w\\[\\]]+ (\\w+)\\([^;{]*\\) \\{$").matcher(bare);
        Map<String, String> bodies = new TreeMap<>();
        while (head.find()) {
            String body = bare.substring(head.end(), bare.indexOf("\n" + head.group(1) + "}", head.start()));
            due("sixty lines: " + head.group(2), body.chars().filter(c -> c == '\n').count() + 2 <= 60);
            bodies.merge(head.group(2), body, String::concat);
        }
        due("methods are seen", bodies.size() > 100);
        depths(bodies);
    }

    /** Methods of one name count as one; those that call one another, as one too: that is recursion. */
    private static void depths(Map<String, String> bodies) {
        Map<String, Set<String>> reached = new TreeMap<>();
        for (String name : bodies.keySet()) {
            reached.put(name, new TreeSet<>());
            Matcher call = Pattern.compile("(\\w+)\\(").matcher(bodies.get(name));
            while (call.find()) {
                if (bodies.containsKey(call.group(1))) reached.get(name).add(call.group(1));
            }
        }
        Map<String, Set<String>> called = new TreeMap<>();
        for (String name : reached.keySet()) called.put(name, new TreeSet<>(reached.get(name)));
        for (String between : reached.keySet()) {
            for (Set<String> from : reached.values()) {
                if (from.contains(between)) from.addAll(reached.get(between));
            }
        }
        for (String name : called.keySet()) {
            int depth = depth(name, called, reached);
            due("eight deep: " + name + " goes " + depth, depth <= 8);
        }
        due("calls are seen", depth("place", called, reached) > 5);
    }

    private static int depth(String name, Map<String, Set<String>> called, Map<String, Set<String>> reached) {
        int deepest = 0;
        for (String member : called.keySet()) {
            boolean oneRecursion = member.equals(name) || reached.get(name).contains(member) && reached.get(member).contains(name);
            if (!oneRecursion) continue;
            for (String next : called.get(member)) {
                if (!reached.get(next).contains(name) && !next.equals(name)) deepest = Math.max(deepest, depth(next, called, reached));
            }
        }
        return deepest + 1;
    }
}
