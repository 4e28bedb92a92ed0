import java.util.ArrayList;
import java.util.List;

/** What the tests by hand share: answers are held against those that are due, and texts are laid and put in force. */
abstract class Checked {
    static final int NONE = -1;
    static final int LEAST = -2147483648;
    static final int MAX = 2147483647;
    /** Numbers that nothing bears and that nothing can be. */
    static final int[] FAR = {LEAST, -100000, -1000, -2, 100000, 1000000, MAX};

    /** What is being tested, as it is told with a wrong answer. */
    static String about = "";
    static int asked;
    static final List<String> wrong = new ArrayList<>();

    static void due(String call, long want, long got) {
        asked++;
        if (want != got) wrong.add(about + ": " + call + " answered " + got + ", due is " + want);
    }

    static void due(String call, boolean want, boolean got) { due(call, want ? 1 : 0, got ? 1 : 0); }

    /** Tells what was wrong, and ends with 1 if anything was. */
    static void tell(String test) {
        for (String line : wrong) System.out.println(line);
        System.out.println(test + ": " + (asked - wrong.size()) + " answers as due, " + wrong.size() + " not");
        if (!wrong.isEmpty()) System.exit(1);
    }

    /** Puts a text in place of what was fed: its length. */
    static int lay(BedOffice x, String text) {
        x.end(0);
        StringBuilder padded = new StringBuilder(text);
        while (padded.length() % 20 != 0) padded.append('\t');
        for (int at = 0; at < padded.length(); at += 20) {
            int[] n = new int[5];
            for (int i = 0; i < 20; i++) n[i / 4] = n[i / 4] << 8 | padded.charAt(at + i);
            x.feed(n[0], n[1], n[2], n[3], n[4]);
        }
        x.end(text.length());
        return text.length();
    }

    /** Lays a text and makes a sheet of it: its number. */
    static int law(BedOffice x, String text) {
        lay(x, text);
        return x.sheet();
    }

    static void fault(String text, int place) {
        BedOffice x = new BedOffice();
        lay(x, text);
        due("fault() of \"" + text + "\"", place, x.fault());
        due("count(6) behind fault()", text.length(), x.count(6));
    }

    static void go(BedOffice x, int days) {
        for (int left = days; left > 0; left -= 40) x.go(Math.min(40, left));
    }
}
