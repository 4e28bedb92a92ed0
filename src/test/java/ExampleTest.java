import java.io.IOException;
import java.lang.reflect.Method;
import java.lang.reflect.Modifier;
import java.nio.file.Files;
import java.nio.file.Path;
import java.util.HashMap;
import java.util.List;
import java.util.Map;
import java.util.regex.Matcher;
import java.util.regex.Pattern;

/** The examples of README.md: their lines stand here too, in the same order, and answer what is told behind them there. */
public final class ExampleTest extends Checked {
    private static final Pattern TOLD = Pattern.compile("\\w+ (\\w+) = .*; +// (-?\\d+|true|false)(:.*)?");
    private static final Map<String, String> answers = new HashMap<>();

    public static void main(String[] args) throws IOException {
        about = "README.md";
        example();
        Path readme = Path.of(System.getProperty("readme", "README.md"));
        Path here = Path.of(System.getProperty("tests", "src/test/java"), "ExampleTest.java");
        List<String> lines = Files.readAllLines(here).stream().map(ExampleTest::code).toList();
        boolean inside = false;
        int at = 0;
        for (String line : Files.readAllLines(readme)) {
            if (line.startsWith("```")) {
                inside = line.equals("```java");
                at = 0;
            } else if (inside) {
                int found = lines.subList(at, lines.size()).indexOf(code(line));
                due("a line of ExampleTest, in its order: " + line, true, found >= 0);
                at += found + 1;
                answered(line);
            }
        }
        due("answers told", answers.size(), answersTold);
        due("calls in its table", "", untold(Files.readString(readme)));
        tell("ExampleTest");
    }

    private static int answersTold;

    private static void answered(String line) {
        Matcher told = TOLD.matcher(line);
        if (told.matches()) {
            answersTold++;
            due(line, told.group(2), answers.get(told.group(1)));
        }
    }

    private static void due(String call, String want, String got) { due(call + ", here " + got, true, want.equals(got)); }

    private static void example() {
        BedOffice office = new BedOffice();
        int harbour = office.town(100, 310, 5);
        int hill = office.town(150, 1540, 0);
        int house = office.home(harbour, 414, 200);
        int flat = office.home(hill, 504, 5);
        int weavers = office.family(420, 20);
        int singers = office.family(311, 101);
        boolean wished = office.wish(singers, hill);
        int barred = office.bar(singers, house);
        int placed = office.place();
        int where = office.told(singers, 1);
        due("the flat", flat, where);
        int broken = office.move(weavers, -1);
        int today = office.go(6);
        int night = office.night(singers, 4);
        int nextNight = office.night(singers, 5);
        answers.putAll(Map.of("wished", "" + wished, "barred", "" + barred, "placed", "" + placed, "where", "" + where,
                "broken", "" + broken, "today", "" + today, "night", "" + night, "nextNight", "" + nextNight));

        int sheet = law(office, "ahead heads + nights; limit 2; must rooms < heads + 3;");
        int rank = office.rank(weavers, 0);
        int beyond = office.beyond();
        int faulty = law(office, "limit 3; sum heads > 2;");
        int fault = office.fault();
        boolean emptied = office.end(0);
        due("count(6) behind that", 0, office.count(6));
        answers.putAll(Map.of("sheet", "" + sheet, "rank", "" + rank, "beyond", "" + beyond, "faulty", "" + faulty,
                "fault", "" + fault, "emptied", "" + emptied));
    }

    static int law(BedOffice office, String text) {
        for (int at = 0; at < text.length(); at += 20) {
            int[] n = new int[5];
            for (int i = 0; i < 20; i++) {
                // Blanks behind the text: where it is too short for 20 bytes, they are no part of any clause.
                n[i / 4] = n[i / 4] << 8 | (at + i < text.length() ? text.charAt(at + i) : ' ');
            }
            office.feed(n[0], n[1], n[2], n[3], n[4]);
        }
        return office.sheet();
    }

    /** The calls of the face that have no place in the table. */
    private static String untold(String readme) {
        StringBuilder untold = new StringBuilder();
        for (Method method : BedOffice.class.getDeclaredMethods()) {
            String name = "`" + method.getName() + "`";
            boolean told = readme.lines().anyMatch(line -> line.startsWith("| ") && line.contains(name));
            if (Modifier.isPublic(method.getModifiers()) && !told) untold.append(name);
        }
        return untold.toString();
    }

    /** A line without what is told behind it, and without blanks around. */
    private static String code(String line) {
        return line.replaceFirst("; +//.*", ";").trim();
    }
}
