import java.util.Arrays;
import java.util.List;

/** The boundary cases of EXPR, of TOKENS and of the FAULTS, each by the sentence of Terms 2 that names it. */
public final class ExprEdgesTest {
    private static final String HEAD = "cap from 1 is ";
    private static final int BEGIN = HEAD.length();
    private static final String MOST = "(65536 * 32768 - 1)";
    private static final String LEAST = "(65536 * 32768)";
    private static final String SIXTY = "-1" + "+1".repeat(29);
    private static final List<String> TOKENS = List.of("limit", "first", "keep", "cap", "diff", "fee", "day", "month",
            "price", "lots", "grade", "place", "from", "is", "min", "max", "7", ";", "?", ":", "<", ">", "=", "+", "-",
            "*", "/", "(", ")", ",");

    private ExprEdgesTest() {
    }

    public static void main(String[] args) {
        comparisons();
        choices();
        partsAreCut();
        goRoundAsInts();
        leastAndGreatest();
        numbers();
        everyByteByItself();
        asLongAsCanBe();
        tokensThatCantStandThere();
        theTextsEnd();
        theFirstByPlace();
        theLeastNumberOfOnePlace();
        twelveOpen();
        openUntilItsBracket();
        openUntilItsExprEnds();
        openUntilItsFactorEnds();
        thirtyRules();
        sixtyTokens();
        theSixtyFirst();
        Check.finish("ExprEdgesTest");
    }

    private static void comesTo(String expr, int due) {
        Pit pit = new Pit();
        Check.is("rules() of " + expr, Check.tell(pit, HEAD + expr + ";"), 1);
        Check.is(expr, pit.rule(3, 1, 0, 0, 0, 0, 0), due);
    }

    private static void isFault(String expr, int fault, int place) {
        Check.isFault(new Pit(), HEAD + expr, fault, BEGIN + place);
    }

    /** No FAULT but that the text ends too soon. */
    private static void goesOn(String expr) {
        isFault(expr, 2, expr.length());
    }

    /** "COND: SUM [ one of < > = SUM ] (1 or 0)". */
    private static void comparisons() {
        String[] row = {LEAST, "(-" + MOST + ")", "(-1)", "0", "1", MOST};
        for (int a = 0; a < row.length; a++) {
            for (int b = 0; b < row.length; b++) {
                comesTo(row[a] + "<" + row[b], a < b ? 1 : 0);
                comesTo(row[a] + ">" + row[b], a > b ? 1 : 0);
                comesTo(row[a] + "=" + row[b], a == b ? 1 : 0);
            }
        }
        comesTo("5", 5);
    }

    /** "EXPR: COND [ ? EXPR : EXPR ]"; "of ? : both sides can be asked, the one that is chosen counts". */
    private static void choices() {
        comesTo("0 ? 8 : 9", 9);
        for (String chosen : new String[] {"1", "-1", "2", LEAST, MOST}) {
            comesTo(chosen + " ? 8 : 9", 8);
        }
        comesTo("1 ? 8 : 9 / 0", 8);
        comesTo("0 ? 8 / 0 : 9", 9);
        comesTo("1 ? " + MOST + " + 1 : 9", Integer.MIN_VALUE);
        comesTo("1 < 1 ? 8 : 9", 9);
        comesTo("(1 ? 8 : 9) ? 1 : 2", 1);
    }

    /** "PART: FACTOR { * or / FACTOR } (cut; by 0: 0)". */
    private static void partsAreCut() {
        int[] tops = {-7, -6, -1, 0, 1, 6, 7};
        int[] bottoms = {-7, -4, -3, -1, 1, 3, 4, 7};
        for (int top : tops) {
            for (int bottom : bottoms) {
                comesTo(top + " / " + bottom, top / bottom);
            }
            comesTo(top + " / 0", 0);
            comesTo(top + " / 0 + 5", 5);
            comesTo(top + " / (3 - 3) * 9", 0);
        }
        comesTo("999999 / (999999 + 1) * 2", 0);
        comesTo("8 / 3 * 3", 6);
    }

    /** "All go round as ints". */
    private static void goRoundAsInts() {
        comesTo(MOST, Integer.MAX_VALUE);
        comesTo(LEAST, Integer.MIN_VALUE);
        comesTo(MOST + " + 1", Integer.MIN_VALUE);
        comesTo(LEAST + " - 1", Integer.MAX_VALUE);
        comesTo(MOST + " + " + MOST, -2);
        comesTo("-" + LEAST, Integer.MIN_VALUE);
        comesTo("-" + MOST, Integer.MIN_VALUE + 1);
        comesTo("0 - " + LEAST, Integer.MIN_VALUE);
        comesTo(LEAST + " * -1", Integer.MIN_VALUE);
        comesTo(LEAST + " / -1", Integer.MIN_VALUE);
        comesTo(LEAST + " / 0", 0);
        comesTo(LEAST + " / 2", -1073741824);
        comesTo(MOST + " * " + MOST, 1);
        comesTo("65536 * 65535", -65536);
        comesTo("65536 * 65536", 0);
        comesTo("65536 * 65536 / 65536", 0);
        comesTo("999999 * 999999 - 1", (int) (999999L * 999999L - 1));
        comesTo(MOST + " + 1 < " + MOST, 1);
    }

    /** "min ( EXPR , EXPR ), max likewise". */
    private static void leastAndGreatest() {
        String[] row = {LEAST, "-1", "0", "1", MOST};
        int[] value = {Integer.MIN_VALUE, -1, 0, 1, Integer.MAX_VALUE};
        for (int a = 0; a < row.length; a++) {
            for (int b = 0; b < row.length; b++) {
                comesTo("min(" + row[a] + "," + row[b] + ")", value[Math.min(a, b)]);
                comesTo("max(" + row[a] + "," + row[b] + ")", value[Math.max(a, b)]);
            }
        }
    }

    /** "NUMBERS 0 .. 999999"; FAULT 1: "a NUMBER above 999999". */
    private static void numbers() {
        for (String good : new String[] {"0", "00", "1", "9", "10", "999998", "999999", "0999999", "00000000001"}) {
            comesTo(good, Integer.parseInt(good));
        }
        for (String wrong : new String[] {"1000000", "01000000", "9999990", "1000001", "2147483647", "2147483648",
            "4294967295", "4294967296", "4294967297", "18446744073709551616", "18446744073709551617"}) {
            isFault(wrong + ";", 1, 0);
            isFault("1 + " + wrong, 1, 4);
        }
    }

    /** "TOKENS: letters a .. z; digits; signs; between them any blanks and newlines (32, 10)": all 256 bytes. */
    private static void everyByteByItself() {
        for (int b = 0; b < 256; b++) {
            String text = HEAD + "3" + (char) b + ";";
            if (b == ' ' || b == '\n' || b >= '0' && b <= '9') {
                Check.is("byte " + b, Check.tell(new Pit(), text), 1);
            } else if (";?<>=+-*/".indexOf(b) >= 0) {
                Check.isFault(new Pit(), text, 2, BEGIN + 2);
            } else if (":(),".indexOf(b) >= 0) {
                Check.isFault(new Pit(), text, 2, BEGIN + 1);
            } else {
                Check.isFault(new Pit(), text, 1, BEGIN + 1);
            }
            boolean blank = b == ' ' || b == '\n';
            Check.is("byte " + b + " between words",
                    Check.tell(new Pit(), "cap" + (char) b + "from 1 is 3;"), blank ? 1 : GrainPit.NONE);
            Check.is("byte " + b + " alone", Check.tell(new Pit(), "" + (char) b), blank ? 0 : GrainPit.NONE);
        }
    }

    /** "letters a .. z, as long as can be"; FAULT 1: "letters that are none of the words above (at their first byte)". */
    private static void asLongAsCanBe() {
        for (String word : TOKENS) {
            if (word.length() < 2) {
                continue;
            }
            for (String wrong : new String[] {word + "a", word + "z", "a" + word, "z" + word, word + word,
                word.substring(1), word.substring(0, word.length() - 1)}) {
                if (!TOKENS.contains(wrong)) {
                    Check.isFault(new Pit(), wrong, 1, 0);
                    Check.isFault(new Pit(), "\n " + wrong + " from 1 is 3;", 1, 2);
                    isFault(wrong, 1, 0);
                }
            }
        }
        Check.is("letters, digits, letters", Check.tell(new Pit(), "cap from1is 3;"), 1);
        isFault("3day;", 2, 1);
        isFault("3days;", 1, 1);
        isFault("day3;", 2, 3);
        isFault("1 2;", 2, 2);
        isFault("da y;", 1, 0);
        comesTo("12", 12);
    }

    private static void allows(String ahead, String... fitting) {
        List<String> allowed = Arrays.asList(fitting);
        for (String token : TOKENS) {
            String text = ahead + " " + token;
            Pit pit = new Pit();
            int told = Check.tell(pit, text);
            if (!allowed.contains(token)) {
                Check.is("'" + text + "'", told, GrainPit.NONE);
                Check.is("fault of '" + text + "'", pit.fault(0), 2);
                Check.is("place of '" + text + "'", pit.fault(1), ahead.length() + 1);
            } else if (!token.equals(";")) {
                Check.is("'" + text + "'", told, GrainPit.NONE);
                Check.is("fault of '" + text + "'", pit.fault(0), 2);
                Check.is("place of '" + text + "'", pit.fault(1), text.length());
            } else {
                Check.is("'" + text + "'", told, 1);
            }
        }
    }

    /** FAULT 2: "a TOKEN that can't stand there": all TOKENS at each place of the grammar. */
    private static void tokensThatCantStandThere() {
        String[] names = {"limit", "first", "keep", "cap", "diff", "fee"};
        String[] value = {"7", "day", "month", "price", "lots", "grade", "place", "-", "(", "min", "max"};
        allows("", names);
        allows("cap", "from");
        allows("cap from", "7");
        allows("cap from 1", "is");
        for (String wanted : new String[] {"", "-", "1 +", "1 -", "1 *", "1 /", "1 <", "1 >", "1 =", "1 ?", "1 ? 2 :",
            "(", "min (", "max ( 1 ,", "1 < 2 ?", "- -"}) {
            allows(HEAD + wanted, value);
        }
        allows(HEAD + "min", "(");
        allows(HEAD + "max", "(");
        for (String ended : new String[] {"1", "day", "( 1 )", "max ( 1 , 2 )", "- 1", "1 * 2", "1 - 2", "1 ? 2 : 3"}) {
            allows(HEAD + ended, "+", "-", "*", "/", "<", ">", "=", "?", ";");
        }
        for (String compared : new String[] {"1 < 2", "1 > 2", "1 = 2 + 3", "1 ? 2 : 3 < 4"}) {
            allows(HEAD + compared, "+", "-", "*", "/", "?", ";");
        }
        allows(HEAD + "( 1", "+", "-", "*", "/", "<", ">", "=", "?", ")");
        allows(HEAD + "( 1 < 2", "+", "-", "*", "/", "?", ")");
        allows(HEAD + "min ( 1", "+", "-", "*", "/", "<", ">", "=", "?", ",");
        allows(HEAD + "min ( 1 , 2", "+", "-", "*", "/", "<", ">", "=", "?", ")");
        allows(HEAD + "1 ? 2", "+", "-", "*", "/", "<", ">", "=", "?", ":");
        allows(HEAD + "( 1 ? 2 : 3", "+", "-", "*", "/", "<", ">", "=", "?", ")");
        allows(HEAD + "1 ;", names);
    }

    /** FAULT 2: "or the TEXT's end where one is wanted (at its end)". */
    private static void theTextsEnd() {
        String[] row = ("cap from 7 is min ( - day , 3 ) < ( 4 ) ? 5 * 6 : max ( 1 ? 2 : 3 , - - 7 ) - 1 ; fee from 0 is 1 ;")
                .split(" ");
        StringBuilder text = new StringBuilder();
        for (int i = 0; i + 1 < row.length; i++) {
            text.append(i == 0 ? "" : " ").append(row[i]);
            boolean whole = row[i].equals(";");
            for (String behind : new String[] {"", " ", "\n \n"}) {
                String cut = text + behind;
                if (whole) {
                    Check.is("rules() of '" + cut + "'", Check.tell(new Pit(), cut), 1);
                } else {
                    Check.isFault(new Pit(), cut, 2, cut.length());
                }
            }
        }
        Check.is("rules() of it all", Check.tell(new Pit(), text + " ;"), 2);
    }

    /** "FAULT of a TEXT, the first by place". */
    private static void theFirstByPlace() {
        String deep = "(".repeat(13);
        isFault("% )", 1, 0);
        isFault(") %", 2, 0);
        isFault("1 1000000 %", 1, 2);
        isFault(deep + "% )", 3, 12);
        isFault("(".repeat(12) + "%" + deep, 1, 12);
        isFault("(".repeat(12) + ")" + deep, 2, 12);
        isFault(SIXTY + "+%", 4, 60);
        isFault(SIXTY.substring(0, 59) + "%+1+1", 1, 59);
        isFault(SIXTY.substring(0, 59) + ";", 2, 59);
        Check.isFault(new Pit(), "cap from 151 is %", 2, 9);
        Check.isFault(new Pit(), "cap from 1000000 %", 1, 9);
        Check.isFault(new Pit(), "fee from 0 is 1;".repeat(30) + "fee %", 4, 480);
        Check.isFault(new Pit(), "fee from 0 is 1;".repeat(29) + "fee from 151 is 1; fee", 2, 29 * 16 + 9);
    }

    /** "of one place the least number". */
    private static void theLeastNumberOfOnePlace() {
        String thirty = "fee from 0 is 1;".repeat(30);
        String twelve = "(".repeat(12) + "1+".repeat(24);
        // 1 ahead of 2, of 4
        isFault("1 1000000;", 1, 2);
        isFault("1 xyz;", 1, 2);
        Check.isFault(new Pit(), "cap xyz", 1, 4);
        isFault(SIXTY + " xyz;", 1, 61);
        isFault("1" + "+1".repeat(29) + "+1000000;", 1, 60);
        Check.isFault(new Pit(), thirty + "xyz", 1, 480);
        // 2 ahead of 3, of 4
        isFault("(".repeat(12) + "1(", 2, 13);
        isFault("(".repeat(12) + "?", 2, 12);
        isFault(SIXTY + "(", 2, 60);
        isFault(SIXTY + ")", 2, 60);
        isFault(SIXTY + ",", 2, 60);
        isFault(SIXTY + ":", 2, 60);
        isFault(SIXTY + "day", 2, 60);
        Check.isFault(new Pit(), thirty + "day", 2, 480);
        Check.isFault(new Pit(), thirty + ";", 2, 480);
        // 3 ahead of 4
        isFault(twelve + "(", 3, 60);
        isFault(twelve + "-", 3, 60);
        isFault("(".repeat(11) + "1?" + "1+".repeat(23) + "1?", 3, 11 + 2 + 46 + 1);
        isFault(twelve + "1", 4, 60);
    }

    /** FAULT 3: "a (, ? or - by itself at which more than 12 of these would be open". */
    private static void twelveOpen() {
        String[] openers = {"(", "-", "0?", "0?1:", "min(", "max(1,"};
        int[] signAt = {0, 0, 1, 1, 3, 3};
        for (int a = 0; a < openers.length; a++) {
            goesOn(openers[a].repeat(12));
            isFault(openers[a].repeat(13), 3, 12 * openers[a].length() + signAt[a]);
            for (int b = 0; b < openers.length; b++) {
                boolean closesAtOnce = a == 1 && openers[b].startsWith("0");
                if (!closesAtOnce) {
                    goesOn(openers[a].repeat(11) + openers[b]);
                    isFault(openers[a].repeat(12) + openers[b], 3, 12 * openers[a].length() + signAt[b]);
                    isFault(openers[a] + openers[b].repeat(12), 3,
                            openers[a].length() + 11 * openers[b].length() + signAt[b]);
                }
            }
        }
        comesTo("(".repeat(12) + "5" + ")".repeat(12), 5);
        comesTo("-".repeat(12) + "5", 5);
        comesTo("-".repeat(11) + "5", -5);
        comesTo("0?1:".repeat(12) + "2", 2);
        comesTo("1?".repeat(12) + "2" + ":3".repeat(12), 2);
        comesTo("0-" + "(".repeat(12) + "5" + ")".repeat(12), -5);
    }

    /** "(a ( until its ), ..". */
    private static void openUntilItsBracket() {
        String twelve = "(".repeat(12);
        goesOn(twelve + "1" + ")".repeat(12) + "+" + twelve);
        isFault(twelve + "1" + ")".repeat(12) + "+" + twelve + "(", 3, 12 + 1 + 12 + 1 + 12);
        isFault(twelve + "1" + ")".repeat(11) + "+" + twelve, 3, 12 + 1 + 11 + 1 + 11);
        goesOn(twelve + "1)+(");
        isFault(twelve + "1)+((", 3, 12 + 4);
        goesOn("min(1,2)+" + twelve);
        isFault("min(1," + twelve, 3, 6 + 11);
        isFault("min(" + twelve, 3, 4 + 11);
        comesTo("(1)" + "+(1)".repeat(14), 15);
    }

    /** ".. a ? until its EXPR behind : ends, ..". */
    private static void openUntilItsExprEnds() {
        String eleven = "(".repeat(11);
        goesOn("0?" + eleven);
        isFault("0?" + eleven + "(", 3, 2 + 11);
        goesOn("0?1:" + eleven);
        isFault("0?1:" + eleven + "(", 3, 4 + 11);
        // ended by ) and , and the : of another ?
        goesOn("(0?1:2)+(" + eleven);
        goesOn("min(0?1:2," + eleven);
        isFault("min(0?1:2," + eleven + "(", 3, 10 + 11);
        goesOn("0?0?1:2:" + eleven);
        isFault("0?0?1:2:" + eleven + "(", 3, 8 + 11);
        isFault("0?1:0?2:" + eleven, 3, 8 + 10);
        // a ? asks behind its COND: what is open in that has ended
        goesOn("(" + eleven + "1" + ")".repeat(12) + "?" + eleven);
        // ended by the ; of its RULE
        Check.is("of two RULES", Check.tell(new Pit(), HEAD + "0?1:2;" + HEAD + "(" + eleven + "1" + ")".repeat(12) + ";"), 2);
    }

    /** ".. a - until its FACTOR ends)"; "- by itself (of FACTOR)": the - of a SUM is none. */
    private static void openUntilItsFactorEnds() {
        String twelve = "(".repeat(12);
        String minus = "-".repeat(12);
        for (String factor : new String[] {"-1", "-day", "-(1)", "-min(1,2)", "--1", minus + "1"}) {
            for (String sign : new String[] {"+", "-", "*", "/", "<", "=", ">"}) {
                goesOn(factor + sign + twelve);
                isFault(factor + sign + twelve + "(", 3, factor.length() + 1 + 12);
            }
            goesOn(factor + "?" + "(".repeat(11));
            isFault(factor + "?" + twelve, 3, factor.length() + 1 + 11);
        }
        goesOn("-(" + "(".repeat(10));
        isFault("-(" + "(".repeat(11), 3, 12);
        isFault("-min(1," + "(".repeat(11), 3, 7 + 10);
        comesTo("1-" + minus + "1", 0);
        comesTo(minus + "1-" + minus + "1", 0);
        comesTo("-1" + "--1".repeat(12), 11);
        isFault("1-" + minus + "-1", 3, 2 + 12);
    }

    /** FAULT 4: "a NAME at which there would be more than 30 RULES in all". */
    private static void thirtyRules() {
        String one = "fee from 0 is 1;";
        Pit pit = new Pit();
        Check.is("29", Check.tell(pit, one.repeat(29)), 29);
        Check.isFault(pit, one + "\n cap", 4, 18);
        Check.isFault(pit, one + one, 4, 16);
        Check.is("the thirtieth", Check.tell(pit, "limit from 150 is 0;"), 1);
        for (String name : TOKENS.subList(0, 6)) {
            Check.isFault(pit, "  " + name + " from 0 is 1;", 4, 2);
        }
        Check.is("no NAME, no FAULT", Check.tell(pit, " \n"), 0);
        Check.is("30 stay", pit.count(4), 30);
        Pit many = new Pit();
        for (int i = 0; i < 30; i++) {
            Check.is("one by one", Check.tell(many, one), 1);
        }
        Check.isFault(many, one, 4, 0);
        Pit once = new Pit();
        Check.isFault(once, one.repeat(31), 4, 480);
        Check.is("a TEXT with a FAULT leaves room for 30", Check.tell(once, one.repeat(30)), 30);
    }

    /** FAULT 4: "a TOKEN at which an EXPR has more than 60": the last that is taken. */
    private static void sixtyTokens() {
        comesTo(SIXTY, 28);
        comesTo("(" + "1+".repeat(28) + "-1)", 27);
        comesTo("max(-1" + "+1".repeat(26) + ",-9)", 25);
        comesTo("1?" + "1+".repeat(27) + "1:-3", 28);
        comesTo("--1<" + "1+".repeat(27) + "-1", 1);
        Pit pit = new Pit();
        Check.is("each EXPR has its own", Check.tell(pit, (HEAD + SIXTY + ";").repeat(7) + "fee from 0 is 2*3;"), 8);
        Check.is("the seventh", pit.rule(3, 1, 0, 0, 0, 0, 0), 28);
        Check.is("one behind them", pit.rule(5, 1, 0, 0, 0, 0, 0), 6);
        Check.is("a TEXT behind them", Check.tell(pit, HEAD + SIXTY.replace('1', '2') + ";"), 1);
        Check.is("it comes to", pit.rule(3, 1, 0, 0, 0, 0, 0), 56);
    }

    /** The first that is not. */
    private static void theSixtyFirst() {
        for (String sign : new String[] {"+", "-", "*", "/", "<", ">", "=", "?"}) {
            isFault(SIXTY + sign, 4, 60);
            isFault(SIXTY + " \n " + sign + "1;", 4, 63);
        }
        for (String value : new String[] {"1", "999999", "day", "place", "min", "max", "(", "-"}) {
            isFault("1" + "+1".repeat(29) + "+" + value, 4, 60);
        }
        isFault("-1" + "+1".repeat(28) + "+min(", 4, 62);
        isFault("(1" + "+1".repeat(29) + ")", 4, 60);
        isFault("min(-1" + "+1".repeat(28) + ",", 4, 62);
        isFault("min(1,-1" + "+1".repeat(27) + ")", 4, 62);
        isFault("1?-1" + "+1".repeat(28) + ":", 4, 60);
        isFault("1?2:-1" + "+1".repeat(27) + "+", 4, 60);
        goesOn(SIXTY);
        isFault("(" + SIXTY.substring(0, 59), 2, 60);
    }
}
