import java.util.Arrays;
import java.util.List;

/** Sentences of the document's terms, part 3: the text, its fault, the sheets, and what clauses tell. */
final class LawSentences extends Checked {
    private static final String[] CLAUSES = {"ahead", "share", "limit", "sum", "must", "show"};
    private static final String[] NAMES = {"heads", "pupils", "lame", "tongue", "trade", "clan", "nights", "wish", "kin", "rooms",
        "stairs", "miles", "seats", "wanted", "all", "beds", "day", "own"};

    private LawSentences() { }

    // ---- the text

    private static String repeated(String part, int times) { return part.repeat(times); }

    @Sentence("A TEXT has at most 500 bytes.")
    static void bytes() {
        BedOffice x = new BedOffice();
        String longest = "ahead 1" + repeated("+1", 246) + ";";
        due("a text of 500 bytes", 500, lay(x, longest));
        due("count(6)", 500, x.count(6));
        due("another 20", NONE, x.feed(0, 0, 0, 0, 0));
        for (int i = 0; i < 4; i++) due("fault()", NONE, x.fault());
        due("sheet()", 0, x.sheet());
        x.family(100, 0);
        due("all of it counts", 247, x.rank(0, 0));
        due("room for 500 again", 500, lay(x, repeated("1=", 250)));
        due("a fault at first", 0, x.fault());
        lay(x, repeated(";", 500));
        due("500 tokens", 0, x.fault());
        lay(x, "must " + repeated("1=1 or ", 70) + "1>1;");
        due("a must of 499 bytes", 1, x.sheet());
        lay(x, "ahead " + repeated("9", 494));
        due("a number too great, up to the end", 6, x.fault());
        lay(x, "ahead " + repeated("0", 494));
        due("a number of 494 digits: it ends too early", 500, x.fault());
        lay(x, repeated("a", 500));
        due("a word of 500 letters", 0, x.fault());
    }

    @Sentence("TOKENS: words of small letters, numbers of digits, as long as can be, and + - * / ( ) [ ] < > = ; with any blanks (32) "
            + "and line ends (10) between.")
    static void tokens() {
        for (int b = 0; b <= 255; b++) {
            char c = (char) b;
            boolean stands = c == ' ' || c == '\n' || c >= '0' && c <= '9' || c == '(';
            BedOffice x = new BedOffice();
            lay(x, "ahead " + c + "1;");
            due("a byte " + b + " ahead of 1", c == '(' ? 8 : stands ? NONE : 6, x.fault());
            lay(x, "ahead 1" + c + ";");
            due("a byte " + b + " behind 1", "+-*/;".indexOf(c) >= 0 ? 8 : stands && c != '(' ? NONE : 7, x.fault());
            lay(x, "ahead heads" + c + ";");
            boolean letter = c >= 'a' && c <= 'z';
            due("a byte " + b + " behind heads", "+-*/;".indexOf(c) >= 0 ? 12 : c == ' ' || c == '\n' ? NONE : letter ? 6 : 11, x.fault());
        }
        fault("ahead heads;", NONE);
        fault("aheadheads;", 0);
        fault("ahead head s;", 6);
        fault("ahead headslame;", 6);
        fault("ahead 12;", NONE);
        fault("ahead 1 2;", 8);
        fault("ahead1;", NONE);
        fault("ahead heads1;", 11);
        fault("ahead 1heads;", 7);
        fault("must heads=1and lame=1;", NONE);
        fault("must heads=1andlame=1;", 12);
        fault("must notheads=1;", 5);
        fault("must not[heads=1];", NONE);
        fault("ahead\n(\n1\n+\n1\n)\n*\n1\n/\n1\n-\n1\n;\n", NONE);
        fault("  must  [  1  <  1  ]  and  1  >  1  or  1  =  1  ;  ", NONE);
        fault("must[1<1]and 1>1or 1=1;", NONE);
        fault("ahead 1\t;", 7);
        fault("ahead 1\r;", 7);
    }

    @Sentence("A TEXT is CLAUSES, none or more, each at most once:")
    static void clauses() {
        fault("", NONE);
        fault(" \n", NONE);
        BedOffice x = new BedOffice();
        due("a sheet of none", 0, x.sheet());
        String[] whole = {"ahead 1;", "share 1;", "limit 1;", "sum 1;", "must 1=1;", "show 1=1;"};
        for (int one = 0; one < 6; one++) {
            fault(whole[one], NONE);
            for (int other = 0; other < 6; other++) {
                fault(whole[one] + whole[other], one == other ? whole[one].length() : NONE);
            }
            StringBuilder all = new StringBuilder();
            for (int i = 0; i < 6; i++) all.append(whole[(one + 5 * i) % 6]);
            fault(all.toString(), NONE);
            fault(all + whole[one], all.length());
            fault("x" + whole[one].substring(1), 0);
        }
    }

    @Sentence("F is a number (0 .. 99999), a NAME or ( E ).")
    static void factors() {
        fault("ahead 0;", NONE);
        fault("ahead 99999;", NONE);
        fault("ahead 100000;", 6);
        fault("ahead 2147483648;", 6);
        fault("ahead 4294967296;", 6);
        fault("ahead 18446744073709551616;", 6);
        fault("ahead 000000000000000000000099999;", NONE);
        fault("ahead 000000000000000000000100000;", 6);
        fault("ahead -1;", 6);
        fault("ahead (1);", NONE);
        fault("ahead ();", 7);
        for (String name : NAMES) {
            fault("ahead " + name + ";", NONE);
            fault("ahead " + name + "s;", 6);
            fault("ahead x" + name + ";", 6);
            fault("ahead x" + name.substring(1) + ";", 6);
            fault("ahead " + name.substring(1) + ";", 6);
            fault("ahead " + name.substring(0, name.length() - 1) + ";", 6);
        }
        BedOffice x = new BedOffice();
        x.family(100, 0);
        law(x, "ahead 99999;limit 00000;");
        due("99999", 99999, x.rank(0, 0));
        due("00000", 0, x.rank(0, 1));
    }

    @Sentence("( [ and not open what is one deeper; 8 at most.")
    static void deep() {
        String[] opening = {"(", "[", "not "};
        String[] closing = {")", "]", ""};
        fault("sum " + repeated("(", 8) + "1" + repeated(")", 8) + ";", NONE);
        fault("sum " + repeated("(", 9) + "1" + repeated(")", 9) + ";", 12);
        fault("show " + repeated("[", 8) + "1=1" + repeated("]", 8) + ";", NONE);
        fault("show " + repeated("[", 9) + "1=1" + repeated("]", 9) + ";", 13);
        fault("show " + repeated("not ", 8) + "1=1;", NONE);
        fault("show " + repeated("not ", 9) + "1=1;", 37);
        // Seven are open by two ways of opening: what comes eighth stands, what comes ninth doesn't.
        for (int one = 1; one < 3; one++) {
            for (int more = 0; more <= 7; more++) {
                int other = 3 - one;
                String open = "must " + repeated(opening[one], more) + repeated(opening[other], 7 - more);
                String close = repeated(closing[other], 7 - more) + repeated(closing[one], more);
                fault(open + "(1)=(1)" + close + ";", NONE);
                fault(open + "((1))=1" + close + ";", open.length() + 1);
                fault(open + "1=(1+(1))" + close + ";", open.length() + 5);
                fault(open + "[1=1]" + close + ";", NONE);
                fault(open + "[[1=1]]" + close + ";", open.length() + 1);
                fault(open + "not 1=1" + close + ";", NONE);
                fault(open + "not (1)=1" + close + ";", open.length() + 4);
                fault(open + "not [1=1]" + close + ";", open.length() + 4);
                fault(open + "not not 1=1" + close + ";", open.length() + 4);
                fault(open + "[1=1] and [1=1] or not 1=1" + close + ";", NONE);
            }
        }
        fault("ahead " + repeated("(1)+", 12) + "((((((((1))))))));", NONE);
        fault("must " + repeated("not 1=1 and ", 20) + "[[[[[[[[1=1]]]]]]]];", NONE);
    }

    // ---- the fault

    /** What may be met behind each of these beginnings, by kinds: word of a clause, number, name, and the rest as it is written. */
    private static final String[][] NEXT = {
        {"", "clause"}, {" \n", "clause"}, {"ahead 1;", "clause"}, {"must 1=1;\n", "clause"},
        {"ahead ", "number name ("}, {"limit\n", "number name ("}, {"ahead 1+", "number name ("}, {"ahead 1-", "number name ("},
        {"ahead 1*", "number name ("}, {"ahead 1/", "number name ("}, {"ahead (", "number name ("}, {"ahead (1+(", "number name ("},
        {"ahead 1 ", "+ - * / ;"}, {"share lame ", "+ - * / ;"}, {"sum (1) ", "+ - * / ;"}, {"ahead 1*1 ", "+ - * / ;"},
        {"ahead (1 ", "+ - * / )"}, {"ahead ((1) ", "+ - * / )"}, {"must (1 ", "+ - * / )"}, {"must 1=(1 ", "+ - * / )"},
        {"must ", "number name ( [ not"}, {"show ", "number name ( [ not"}, {"must [", "number name ( [ not"},
        {"must not ", "number name ( [ not"}, {"must 1=1 and ", "number name ( [ not"}, {"must 1=1 or ", "number name ( [ not"},
        {"must [1=1] or ", "number name ( [ not"}, {"must [1=1 and ", "number name ( [ not"},
        {"must 1 ", "+ - * / < > ="}, {"must (1) ", "+ - * / < > ="}, {"must [lame ", "+ - * / < > ="}, {"must not 1 ", "+ - * / < > ="},
        {"must 1<", "number name ("}, {"must 1>", "number name ("}, {"must 1=", "number name ("},
        {"must 1<1 ", "+ - * / and or ;"}, {"must 1>lame ", "+ - * / and or ;"}, {"must not 1=(1) ", "+ - * / and or ;"},
        {"must [1=1] ", "and or ;"}, {"must not [1=1] ", "and or ;"}, {"must 1=1 and [1=1] ", "and or ;"},
        {"must [1=1 ", "+ - * / and or ]"}, {"must [[1=1] ", "and or ]"}, {"must [not 1=1 ", "+ - * / and or ]"},
    };
    private static final String[] TOKENS = {"ahead", "share", "limit", "sum", "must", "show", "and", "or", "not", "heads", "own", "kin", "7",
        "99999", "+", "-", "*", "/", "(", ")", "[", "]", "<", ">", "=", ";", "x", "heads7", "100000", "@", "A", "\t", "\u0000", "\u00ff"};

    private static String kindOf(String token) {
        if (Arrays.asList(CLAUSES).contains(token)) return "clause";
        if (Arrays.asList(NAMES).contains(token)) return "name";
        return token.matches("[0-9]{1,5}") ? "number" : token;
    }

    @Sentence("The FAULT is the place (from 0 on) of the first byte of the first TOKEN that can't stand there")
    static void faultOfTokens() {
        for (String[] next : NEXT) {
            List<String> stand = Arrays.asList(next[1].split(" "));
            for (String token : TOKENS) {
                String text = next[0] + token;
                boolean again = kindOf(token).equals("clause") && next[0].startsWith(token);
                if (token.equals("heads7")) {
                    // The name can stand or can't; behind it a number never can.
                    fault(text, stand.contains("name") ? text.length() - 1 : next[0].length());
                } else if (!stand.contains(kindOf(token)) || again) {
                    fault(text, next[0].length());
                } else {
                    fault(text, token.equals(";") ? NONE : text.length());
                }
            }
        }
    }

    @Sentence("(also: a number too great, a CLAUSE that was there, what opens too deep)")
    static void faultAlso() {
        fault("ahead 1+100000;", 8);
        fault("ahead 1+ 99999999999;", 9);
        fault("must 1=1 and 1<100000;", 15);
        fault("ahead 100000 100000", 6);
        fault("ahead 1;share 1; ahead 1;", 17);
        fault("must 1=1;must", 9);
        fault("must 1=1;must 1", 9);
        fault("ahead 1+((((((((1+(1))))))))));", 18);
        fault("must [[[[not not not not not 1=1]]]];", 25);
    }

    @Sentence("or of a byte that begins no TOKEN, if that is ahead")
    static void faultOfBytes() {
        fault("ahead 1;#", 8);
        fault("#ahead 1;", 0);
        fault("ahead # x", 6);
        fault("ahead x #", 6);
        fault("ahead 1 # )", 8);
        fault("ahead 1 ) #", 8);
        fault("ahead 1 #", 8);
        fault("ahead heads#", 11);
        fault("ahead 100000#", 6);
        fault(" \u00a0", 1);
        fault("\u0000", 0);
    }

    @Sentence("the length, if it ends too early; NONE without.")
    static void faultOfEnds() {
        String whole = "ahead (heads+12)*lame; must not [1<2 and kin=0];";
        for (int n = 0; n <= whole.length(); n++) {
            String text = whole.substring(0, n);
            boolean ended = n == 0 || n == 22 || n == 23 || n == whole.length();
            // A word that is cut is another word, and can't stand there.
            String word = text.replaceFirst("^(?s).*?([a-z]*)$", "$1");
            boolean cut = !word.isEmpty() && !Arrays.asList(CLAUSES).contains(word) && !Arrays.asList(NAMES).contains(word)
                    && !word.equals("and") && !word.equals("not");
            fault(text, ended ? NONE : cut ? n - word.length() : n);
        }
        fault("ahead 1 \n  ", 11);
        fault("must 1=1 and \n", 14);
        fault("ahead 1; \n ", NONE);
    }

    // ---- the sheets

    @Sentence("A TEXT without one becomes a SHEET (at most 10)")
    static void sheets() {
        BedOffice x = new BedOffice();
        x.family(100, 0);
        for (int i = 0; i < 10; i++) due("sheet " + i, i, law(x, "limit " + i + ";"));
        lay(x, "limit 10;");
        due("an 11th", NONE, x.sheet());
        due("count(5)", 10, x.count(5));
        due("the text stays", 9, x.count(6));
        due("the tenth counts", 9, x.rank(0, 1));
        x.strike(9);
        due("one that is struck is one of the 10", NONE, x.sheet());
        due("the ninth counts", 8, x.rank(0, 1));
        BedOffice y = new BedOffice();
        lay(y, "limit 10");
        due("with a fault", NONE, y.sheet());
        due("the text stays", 8, y.count(6));
    }

    @Sentence("IN FORCE from NOW on, till it is STRUCK (from that DAY on it never counts for DAYS from then on; for DAYS ahead it stays).")
    static void inForce() {
        BedOffice x = new BedOffice();
        x.family(100, 0);
        x.go(2);
        law(x, "limit 7;");
        x.go(2);
        due("on 1, ahead of it", NONE, x.why(2, 1));
        due("on 2, as it came", 0, x.why(2, 2));
        due("on 4", 0, x.why(2, 4));
        x.strike(0);
        due("on 4, as it was struck", NONE, x.why(2, 4));
        due("limit", 30, x.rank(0, 1));
        due("on 3 it stays", 0, x.why(2, 3));
        due("on 2 it stays", 0, x.why(2, 2));
        x.go(3);
        for (int day = 0; day <= 7; day++) due("on " + day, day == 2 || day == 3 ? 0 : NONE, x.why(2, day));
        law(x, "limit 8;");
        x.strike(1);
        due("struck as it came: never in force", NONE, x.why(2, 7));
    }

    @Sentence("For a CLAUSE on a DAY that of the latest SHEET counts that came on that DAY or ahead, wasn't STRUCK on that DAY or ahead, and has it.")
    static void latest() {
        BedOffice x = new BedOffice();
        x.family(100, 0);
        law(x, "limit 5;");
        law(x, "limit 6;ahead 1;");
        due("two of one day: the later one", 1, x.why(2, 0));
        due("limit", 6, x.rank(0, 1));
        law(x, "ahead 2;");
        due("the latest that has it", 1, x.why(2, 0));
        due("ahead", 2, x.why(0, 0));
        x.go(1);
        law(x, "limit 7;");
        due("of day 1", 3, x.why(2, 1));
        due("day 0 as it was", 1, x.why(2, 0));
        x.strike(1);
        due("of day 1 still", 3, x.why(2, 1));
        x.strike(3);
        due("struck, and the one ahead of it, too", 0, x.why(2, 1));
        due("limit", 5, x.rank(0, 1));
        due("ahead", 2, x.rank(0, 0));
        x.strike(0);
        due("none has it", NONE, x.why(2, 1));
        due("day 0 as it was", 1, x.why(2, 0));
    }

    @Sentence("Without any: ahead 0, share 0, limit 30, sum 0; must holds, show doesn't.")
    static void withoutAny() {
        BedOffice x = new BedOffice();
        x.town(0, 0, 0);
        x.home(0, 104, 200);
        x.family(100, 0);
        x.family(200, 0);
        due("ahead", 0, x.rank(0, 0));
        due("share", 0, x.lack(0));
        due("limit", 30, x.rank(0, 1));
        due("must", 0, x.bar(0, 0));
        due("show", NONE, x.show(0, 0, 2));
        x.place();
        go(x, 30);
        due("sum", 0, x.is(0, 3));
        due("30 nights", 0, x.beyond());
        x.go(1);
        due("31 nights", 1, x.beyond());
        for (int clause = 0; clause < 6; clause++) due("why(" + clause + ", 0)", NONE, x.why(clause, 0));
    }

    // ---- what clauses tell

    private static void ahead(String sum, int want) {
        BedOffice x = new BedOffice();
        x.family(100, 0);
        due("the sheet of " + sum, 0, law(x, "ahead " + sum + ";"));
        due(sum, want, x.rank(0, 0));
    }

    @Sentence("E is T, any number of + T or - T; T is F, any number of * F or / F")
    static void sums() {
        ahead("7", 7);
        ahead("9-4-3", 2);
        ahead("9-4+3", 8);
        ahead("9-(4+3)", 2);
        ahead("2+3*4", 14);
        ahead("2*3+4", 10);
        ahead("(2+3)*4", 20);
        ahead("100/10/5", 2);
        ahead("100/10*5", 50);
        ahead("100/(10*5)", 2);
        ahead("3*7/2", 10);
        ahead("7/2*3", 9);
        ahead("1" + repeated("+1", 240), 241);
        ahead("1" + repeated("*1", 240), 1);
    }

    private static void holds(String condition, boolean want) {
        BedOffice x = new BedOffice();
        x.town(0, 0, 0);
        x.home(0, 104, 200);
        x.family(100, 0);
        due("the sheet of " + condition, 0, law(x, "must " + condition + ";"));
        due(condition, want ? 0 : 9, x.bar(0, 0));
    }

    @Sentence("C is A, any number of or A; A is B, any number of and B; B is not B, [ C ], E < E, E > E or E = E.")
    static void conditions() {
        for (int a = 0; a < 2; a++) {
            holds("not " + a + "=1", a == 0);
            holds("not not " + a + "=1", a == 1);
            holds("[" + a + "=1]", a == 1);
            for (int b = 0; b < 2; b++) {
                String one = a + "=1", other = b + "=1";
                holds(a + "<" + b, a < b);
                holds(a + ">" + b, a > b);
                holds(a + "=" + b, a == b);
                holds(one + " and " + other, a == 1 && b == 1);
                holds(one + " or " + other, a == 1 || b == 1);
                holds("not " + one + " and " + other, a == 0 && b == 1);
                holds("not " + one + " or " + other, a == 0 || b == 1);
                holds("not [" + one + " and " + other + "]", a == 0 || b == 0);
                for (int c = 0; c < 2; c++) {
                    String third = c + "=1";
                    holds(one + " and " + other + " or " + third, a == 1 && b == 1 || c == 1);
                    holds(one + " or " + other + " and " + third, a == 1 || b == 1 && c == 1);
                    holds("[" + one + " or " + other + "] and " + third, (a == 1 || b == 1) && c == 1);
                }
            }
        }
        for (String sign : new String[] {"<", ">", "="}) {
            for (int b = 0; b <= 2; b++) {
                boolean holds = sign.equals("<") ? 1 < b : sign.equals(">") ? 1 > b : b == 1;
                String one = "1" + sign + b;
                holds(one, holds);
                holds("not " + one, !holds);
                holds("1=1 and not " + one, !holds);
                holds("1=1 and " + one, holds);
                holds("1=2 or not " + one, !holds);
                holds("1=2 or " + one, holds);
                holds("not [1=1 and " + one + "]", !holds);
                holds("not [1=2 or not " + one + "]", holds);
            }
        }
        fault("must 1=1 xnd 1=1;", 9);
        fault("must 1=1 xr 1=1;", 9);
        fault("must xot 1=1;", 5);
        holds("0-1<0", true);
        holds("0>0-1", true);
        holds("1+1=2", true);
        holds("2<1+1", false);
        holds("2=1+1 and 1+2>2*1", true);
    }

    @Sentence("Results of + - * are brought into -1000000 .. 1000000; / is cut toward 0, by 0 it is 0.")
    static void results() {
        ahead("99999*10+10", 1000000);
        ahead("99999*10+11", 1000000);
        ahead("99999*10+9", 999999);
        ahead("0-99999*10-10", -1000000);
        ahead("0-99999*10-11", -1000000);
        ahead("0-99999*10-9", -999999);
        ahead("1000*1000", 1000000);
        ahead("1000*1001", 1000000);
        ahead("(0-1000)*1000", -1000000);
        ahead("(0-1000)*1001", -1000000);
        ahead("(0-1001)*(0-1000)", 1000000);
        ahead("999*1001", 999999);
        // Each of these wraps round as an int: to 0, below 0, and to a small one.
        ahead("65536*65536", 1000000);
        ahead("46341*46341", 1000000);
        ahead("(0-65536)*65536", -1000000);
        ahead("65537*65536", 1000000);
        ahead("99999*99999*99999", 1000000);
        ahead("99999*99999*99999*99999*99999", 1000000);
        ahead("99999*99999+99999*99999-1", 999999);
        ahead("99999*99999-1-99999*99999", -1);
        ahead("99999*99999*99999/1000", 1000);
        ahead("7/2", 3);
        ahead("(0-7)/2", -3);
        ahead("7/(0-2)", -3);
        ahead("(0-7)/(0-2)", 3);
        ahead("1/2", 0);
        ahead("(0-1)/2", 0);
        ahead("5/0", 0);
        ahead("(0-5)/0", 0);
        ahead("0/0", 0);
        ahead("0/5", 0);
        ahead("5/(1-1)+7", 7);
        ahead("99999*99999/0", 0);
        ahead("(0-99999)*99999/(0-1)", 1000000);
    }

    // ---- what the NAMES stand for

    /** Two towns at miles 100 and 350, with homes; family 0 has kin in both, and wishes the second. */
    private static BedOffice village() {
        BedOffice x = new BedOffice();
        x.town(100, 1540, 8);
        x.town(350, 720, 1);
        x.home(0, 914, 200);
        x.home(1, 404, 5100);
        x.home(1, 204, 0);
        x.home(1, 304, 200);
        x.home(0, 104, 200);
        x.family(421, 234);
        x.family(940, 0);
        x.family(310, 0);
        x.family(100, 0);
        x.wish(0, 1);
        for (int f = 1; f <= 3; f++) x.record(0, 111111 * f, 50, 0, f);
        for (int f = 1; f <= 3; f++) x.seek(0, 111111 * f, 50);
        law(x, "must rooms=9 and heads=9 or rooms=3 and heads=3 or rooms=1 and heads=1;");
        x.place();
        x.go(7);
        return x;
    }

    private static void tells(int home, String... names) {
        BedOffice x = village();
        for (String name : names) {
            due("the sheet of " + name, true, law(x, "must " + name + ";") != NONE);
            due("must " + name + " for home " + home, 0, x.bar(0, home));
        }
    }

    @Sentence("NAMES of a FAMILY and a HOME: heads, pupils, lame (1, 0), tongue, trade, clan; nights")
    static void namesOfFamily() {
        tells(1, "heads=4", "pupils=2", "lame=1", "tongue=2", "trade=3", "clan=4", "nights=7");
        BedOffice x = village();
        law(x, "ahead lame;limit nights;");
        due("not lame", 0, x.rank(1, 0));
        due("no nights in the hall", 0, x.rank(1, 1));
        due("nights of family 0", 7, x.rank(0, 1));
    }

    @Sentence("wish: 1, if its WISH is the HOME's TOWN")
    static void namedWish() {
        tells(1, "wish=1");
        BedOffice x = village();
        x.wish(0, 0);
        law(x, "must wish=0;");
        due("not its wish", 0, x.bar(0, 1));
        x.wish(0, NONE);
        due("no wish", 0, x.bar(0, 1));
    }

    @Sentence("kin: how many KIN of it are HOUSED in that TOWN")
    static void namedKin() {
        tells(1, "kin=1");
        BedOffice x = village();
        x.move(1, NONE);
        law(x, "must kin=1;");
        due("one in town 1", 0, x.bar(0, 1));
        due("its one kin is in the hall", 9, x.bar(1, 0));
        x.leave(2);
        due("gone", 9, x.bar(0, 1));
        BedOffice y = new BedOffice();
        y.town(0, 0, 0);
        y.town(0, 0, 0);
        for (int i = 0; i < 4; i++) {
            y.home(0, 104, 200);
            y.family(100, 0);
        }
        y.home(1, 104, 200);
        for (int f = 1; f <= 3; f++) y.record(0, 111111 * f, 50, 0, f);
        for (int f = 1; f <= 3; f++) y.seek(0, 111111 * f, 50);
        y.place();
        law(y, "must kin=3;");
        due("three in its town", 0, y.bar(0, 0));
        due("none in the other one", 9, y.bar(0, 4));
        law(y, "must kin=1;");
        due("of one of them: it alone", 0, y.bar(1, 1));
        law(y, "must 1=1;");
        due("one moves", 0, y.move(2, 4));
        law(y, "must kin=2;");
        due("two in its town", 0, y.bar(0, 0));
    }

    @Sentence("rooms, stairs (1, 0); miles: from the HOME's TOWN to its WISH (0 without)")
    static void namedHome() {
        tells(1, "rooms=4", "stairs=0", "miles=0");
        BedOffice x = village();
        law(x, "must rooms=9 and stairs=1;");
        due("of home 0", 0, x.bar(1, 0));
        x.wish(0, 0);
        law(x, "must miles=250;");
        due("miles to its wish", 0, x.bar(0, 1));
        law(x, "must miles=0;");
        due("as far", 9, x.bar(0, 1));
        x.wish(0, NONE);
        due("without a wish", 0, x.bar(0, 1));
    }

    @Sentence("seats: SEATS free in that TOWN; wanted: 1, if the TOWN wants its TRADE")
    static void namedTown() {
        tells(1, "seats=19", "wanted=0");
        BedOffice x = village();
        law(x, "must seats=40;");
        due("its own pupils aside", 0, x.bar(1, 0));
        law(x, "must seats=20;");
        due("its own pupil aside", 0, x.bar(2, 3));
        law(x, "must wanted=1;");
        due("trade 0 in town 1", 0, x.bar(2, 3));
        due("trade 0 in town 0", 9, x.bar(1, 0));
        BedOffice y = new BedOffice();
        y.town(0, 340, 32);
        y.home(0, 104, 200);
        y.family(100, 50);
        y.family(100, 40);
        law(y, "must wanted=1;");
        due("the last trade", 0, y.bar(0, 0));
        due("another trade", 9, y.bar(1, 0));
    }

    @Sentence("all: HEADS of all that aren't GONE; beds: ROOMS of all HOMES of that TOWN (whatever DAYS); day: the DAY")
    static void namedAll() {
        tells(1, "all=17", "beds=9", "day=7");
        BedOffice x = village();
        x.leave(1);
        x.leave(0);
        law(x, "limit all;share beds*100+day;");
        due("all that aren't gone", 4, x.rank(3, 1));
        due("beds, day, less heads: town 0", 1007 - 1, x.lack(0));
        due("beds, day, less heads: town 1", 907 - 3, x.lack(1));
        x.go(1);
        due("the day", 1008 - 1, x.lack(0));
    }

    @Sentence("own: 1, if who asks is that FAMILY (else 0; for show alone)")
    static void namedOwn() {
        tells(1, "own=0");
        BedOffice x = village();
        law(x, "show own=1;ahead own;limit own;share own;");
        due("who asks is that family", 4, x.show(0, 0, 2));
        due("another one", NONE, x.show(1, 0, 2));
        due("a town", NONE, x.show(100, 0, 2));
        due("ahead", 0, x.rank(0, 0));
        due("limit", 0, x.rank(0, 1));
        due("share", -10, x.lack(0));
        law(x, "show own=0;");
        due("itself", NONE, x.show(0, 0, 2));
        due("another one", 4, x.show(1, 0, 2));
        due("a town", 4, x.show(100, 0, 2));
        x.leave(1);
        law(x, "sum own*1000+1;");
        x.go(1);
        due("sum", 1, x.is(1, 3));
    }

    @Sentence("Where no HOME is asked for (ahead, limit, show), those of a HOME and TOWN are 0 (wish, kin, rooms, stairs, miles, seats, wanted, beds)")
    static void withoutHome() {
        String[] zero = {"wish", "kin", "rooms", "stairs", "miles", "seats", "wanted", "beds"};
        for (String name : zero) {
            BedOffice x = village();
            law(x, "ahead " + name + ";limit " + name + ";show " + name + "=0;");
            for (int f = 0; f < 4; f++) {
                due("ahead " + name + " of " + f, 0, x.rank(f, 0));
                due("limit " + name + " of " + f, 0, x.rank(f, 1));
                due("show " + name + "=0 of " + f, f < 1 ? 4 : f == 1 ? 9 : f == 2 ? 3 : 1, x.show(0, f, 2));
            }
        }
    }

    @Sentence("for share (of a TOWN) all but seats, all, beds and day are 0.")
    static void ofTowns() {
        List<String> others = List.of("seats", "all", "beds", "day");
        int[] ofTown0 = {36, 17, 10, 7};
        int[] ofTown1 = {19, 17, 9, 7};
        for (String name : NAMES) {
            BedOffice x = village();
            law(x, "share " + name + ";");
            int at = others.indexOf(name);
            due("share " + name + " of town 0", (at < 0 ? 0 : ofTown0[at]) - 10, x.lack(0));
            due("share " + name + " of town 1", (at < 0 ? 0 : ofTown1[at]) - 3, x.lack(1));
        }
    }
}
