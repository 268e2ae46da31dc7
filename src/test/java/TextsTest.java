/** Promises 2 to 6: the tape, the rules' texts and their faults, what rules come to. */
public final class TextsTest {
    private static final String LONG_EXPR_HEAD = "cap from 1 is ";

    private TextsTest() {
    }

    public static void main(String[] args) {
        feeding();
        ending();
        bytesAreHighestFirst();
        tellingRules();
        faultOfTheLatest();
        badTokens();
        misplacedTokens();
        ends();
        days();
        depth();
        tokenCount();
        ruleCount();
        leastFaultOfOnePlace();
        inForce();
        expressions();
        wrapping();
        ruleRefuses();
        Check.finish("TextsTest");
    }

    private static void feeding() {
        Pit pit = new Pit();
        for (int i = 1; i <= 30; i++) {
            Check.is("feed " + i, pit.feed(1, 2, 3, 4, 5), 20 * i);
        }
        Check.is("feed beyond 600", pit.feed(1, 2, 3, 4, 5), GrainPit.NONE);
        Check.is("count(8) when full", pit.count(8), 600);
        Check.is("end(581)", pit.end(581), true);
        Check.is("feed to 601", pit.feed(1, 2, 3, 4, 5), GrainPit.NONE);
        Check.is("count(8) then", pit.count(8), 581);
        Check.is("end(580)", pit.end(580), true);
        Check.is("feed to 600", pit.feed(1, 2, 3, 4, 5), 600);
    }

    private static void ending() {
        Pit pit = new Pit();
        Check.is("end(1) of nothing", pit.end(1), false);
        Check.is("end(0) of nothing", pit.end(0), true);
        pit.feed(0, 0, 0, 0, 0);
        Check.is("end(21)", pit.end(21), false);
        Check.is("end(-1)", pit.end(-1), false);
        Check.is("end(least)", pit.end(Integer.MIN_VALUE), false);
        Check.is("end(most)", pit.end(Integer.MAX_VALUE), false);
        Check.is("count(8) when refused", pit.count(8), 20);
        Check.is("end(20)", pit.end(20), true);
        Check.is("end(3)", pit.end(3), true);
        Check.is("count(8) then", pit.count(8), 3);
        Check.is("end(4)", pit.end(4), false);
        Check.is("feed behind 3", pit.feed(0, 0, 0, 0, 0), 23);
    }

    private static void bytesAreHighestFirst() {
        Pit pit = new Pit();
        // "fee " "from" " 0 i" "s 7;" and four blanks
        pit.feed(0x66656520, 0x66726f6d, 0x20302069, 0x7320373b, 0x20202020);
        Check.is("rules()", pit.rules(), 1);
        Check.is("rule fee", pit.rule(5, 0, 0, 0, 0, 0, 0), 7);
        pit.feed(0x66656520, 0x66726f6d, 0x20302069, 0x7320373b, 0x202020A0);
        Check.is("rules() with a byte above 127", pit.rules(), GrainPit.NONE);
        Check.is("its fault", pit.fault(0), 1);
        Check.is("its place", pit.fault(1), 19);
        // what was cut off is not read when the tape grows again
        pit.feed(0x66656520, 0x66726f6d, 0x20302069, 0x7320373b, 0x78787878);
        pit.end(16);
        Check.is("rules() of the first bytes", pit.rules(), 1);
    }

    private static void tellingRules() {
        Pit pit = new Pit();
        Check.is("no text", pit.rules(), 0);
        Check.is("blanks", Check.tell(pit, " \n  \n"), 0);
        Check.is("one", Check.tell(pit, "limit from 3 is 5;"), 1);
        Check.is("two, tight", Check.tell(pit, "first from3is 5;keep from 4is(6);"), 2);
        Check.is("three, wide", Check.tell(pit,
                "\ncap\n from 0\nis 1 ; diff from 150 is 2 ;fee from 000007 is 3 ; "), 3);
        Check.is("count(4)", pit.count(4), 6);
        Check.is("tape is empty", pit.count(8), 0);
        int[] value = {5, 5, 6, 1, 2, 3};
        for (int name = 0; name < 6; name++) {
            Check.is("rule " + name, pit.rule(name, 150, 0, 0, 0, 0, 0), value[name]);
        }
        // a fault in a later rule: none of the text counts
        Check.isFault(pit, "limit from 3 is 9; cap from 3 is ;", 2, 33);
        Check.is("limit as it was", pit.rule(0, 150, 0, 0, 0, 0, 0), 5);
        Check.is("cap as it was", pit.rule(3, 150, 0, 0, 0, 0, 0), 1);
    }

    private static void faultOfTheLatest() {
        Pit pit = new Pit();
        Check.isFault(pit, "cap is 3;", 2, 4);
        Check.is("fault(2)", pit.fault(2), GrainPit.NONE);
        Check.is("fault(-1)", pit.fault(-1), GrainPit.NONE);
        Check.lay(pit, "xx");
        Check.is("fault(1) ahead of rules()", pit.fault(1), 4);
        Check.is("rules()", pit.rules(), GrainPit.NONE);
        Check.is("fault(0) then", pit.fault(0), 1);
        Check.is("fault(1) then", pit.fault(1), 0);
        Check.is("a good one", Check.tell(pit, "  cap from 0 is 3;"), 1);
        Check.is("fault(0) of a good one", pit.fault(0), 0);
    }

    private static void badTokens() {
        Pit pit = new Pit();
        Check.isFault(pit, "Cap from 1 is 3;", 1, 0);
        Check.isFault(pit, "cap from 1 is 3;\t", 1, 16);
        Check.isFault(pit, "cap from 1 is 3;\r\n", 1, 16);
        Check.isFault(pit, "cap from 1 is 3 % 2;", 1, 16);
        Check.isFault(pit, "cap from 1 is 3 & 2;", 1, 16);
        Check.isFault(pit, "cap from 1 is 3.5;", 1, 15);
        Check.isFault(pit, "cap from 1 is [3];", 1, 14);
        Check.isFault(pit, "cap from 1 is 3\0;", 1, 15);
        Check.isFault(pit, "cap from 1 is \377;", 1, 14);
        Check.isFault(pit, "cap from 1 is `;", 1, 14);
        Check.isFault(pit, "cap from 1 is {;", 1, 14);
        Check.isFault(pit, "cap from 1 is @;", 1, 14);
        Check.isFault(pit, "cap from 1 is !;", 1, 14);
        Check.isFault(pit, "capx from 1 is 3;", 1, 0);
        Check.isFault(pit, "ca from 1 is 3;", 1, 0);
        Check.isFault(pit, "capz from 1 is 3;", 1, 0);
        Check.isFault(pit, "capa from 1 is 3;", 1, 0);
        Check.isFault(pit, "cap fromx 1 is 3;", 1, 4);
        Check.isFault(pit, "cap from 1 iss 3;", 1, 11);
        Check.isFault(pit, "cap from 1 is lot;", 1, 14);
        Check.isFault(pit, "cap from 1 is lotsday;", 1, 14);
        Check.isFault(pit, "cap from 1 is mi(1,2);", 1, 14);
        Check.isFault(pit, "cap from 1 is dayX;", 1, 17);
        Check.isFault(pit, "cap from 1 is 1000000;", 1, 14);
        Check.isFault(pit, "cap from 1 is 99999999999999999999;", 1, 14);
        Check.isFault(pit, "cap from 1 is 4294967297;", 1, 14);
        Check.isFault(pit, "cap from 1000000 is 3;", 1, 9);
        Check.is("the greatest number, with noughts", Check.tell(pit, "cap from 1 is 0000999999;"), 1);
        Check.is("cap", pit.rule(3, 1, 0, 0, 0, 0, 0), 999999);
        Check.is("digits behind letters", Check.tell(pit, "cap from1is day+2;"), 1);
        Check.isFault(pit, "cap from 1 is 1day;", 2, 15);
        Check.isFault(pit, "cap from 1 is day 1;", 2, 18);
    }

    private static void misplacedTokens() {
        Pit pit = new Pit();
        Check.isFault(pit, ";", 2, 0);
        Check.isFault(pit, "day from 1 is 3;", 2, 0);
        Check.isFault(pit, "from 1 is 3;", 2, 0);
        Check.isFault(pit, "7", 2, 0);
        Check.isFault(pit, "cap cap from 1 is 3;", 2, 4);
        Check.isFault(pit, "cap from is 3;", 2, 9);
        Check.isFault(pit, "cap from -1 is 3;", 2, 9);
        Check.isFault(pit, "cap from day is 3;", 2, 9);
        Check.isFault(pit, "cap from 1 3;", 2, 11);
        Check.isFault(pit, "cap from 1 = 3;", 2, 11);
        Check.isFault(pit, "cap from 1 is ;", 2, 14);
        Check.isFault(pit, "cap from 1 is cap;", 2, 14);
        Check.isFault(pit, "cap from 1 is from;", 2, 14);
        Check.isFault(pit, "cap from 1 is is;", 2, 14);
        Check.isFault(pit, "cap from 1 is + 1;", 2, 14);
        Check.isFault(pit, "cap from 1 is 1 + * 2;", 2, 18);
        Check.isFault(pit, "cap from 1 is 1 < 2 < 3;", 2, 20);
        Check.isFault(pit, "cap from 1 is 1 < 2 = 3;", 2, 20);
        Check.isFault(pit, "cap from 1 is 1 > = 3;", 2, 18);
        Check.isFault(pit, "cap from 1 is (1;", 2, 16);
        Check.isFault(pit, "cap from 1 is 1);", 2, 15);
        Check.isFault(pit, "cap from 1 is ();", 2, 15);
        Check.isFault(pit, "cap from 1 is (1,2);", 2, 16);
        Check.isFault(pit, "cap from 1 is 1,2;", 2, 15);
        Check.isFault(pit, "cap from 1 is 1 : 2;", 2, 16);
        Check.isFault(pit, "cap from 1 is 1 ? 2;", 2, 19);
        Check.isFault(pit, "cap from 1 is 1 ? 2 : 3 : 4;", 2, 24);
        Check.isFault(pit, "cap from 1 is (1 ? 2) : 3;", 2, 20);
        Check.isFault(pit, "cap from 1 is ? 2 : 3;", 2, 14);
        Check.isFault(pit, "cap from 1 is min 1;", 2, 18);
        Check.isFault(pit, "cap from 1 is min;", 2, 17);
        Check.isFault(pit, "cap from 1 is min(1);", 2, 19);
        Check.isFault(pit, "cap from 1 is max(1,2,3);", 2, 21);
        Check.isFault(pit, "cap from 1 is max(1,);", 2, 20);
        Check.isFault(pit, "cap from 1 is max(,1);", 2, 18);
        Check.isFault(pit, "cap from 1 is 1 2;", 2, 16);
        Check.isFault(pit, "cap from 1 is 1 (2);", 2, 16);
        Check.isFault(pit, "cap from 1 is - ;", 2, 16);
        Check.isFault(pit, "cap from 1 is 3;;", 2, 16);
        Check.isFault(pit, "cap from 1 is 3 cap from 1 is 4;", 2, 16);
    }

    private static void ends() {
        Pit pit = new Pit();
        Check.isFault(pit, "cap", 2, 3);
        Check.isFault(pit, "cap  \n", 2, 6);
        Check.isFault(pit, "cap from", 2, 8);
        Check.isFault(pit, "cap from 1", 2, 10);
        Check.isFault(pit, "cap from 1 is", 2, 13);
        Check.isFault(pit, "cap from 1 is 3", 2, 15);
        Check.isFault(pit, "cap from 1 is 3   ", 2, 18);
        Check.isFault(pit, "cap from 1 is (", 2, 15);
        Check.isFault(pit, "cap from 1 is 1 ?", 2, 17);
        Check.isFault(pit, "cap from 1 is max", 2, 17);
        Check.isFault(pit, "cap from 1 is -", 2, 15);
    }

    private static void days() {
        Pit pit = new Pit();
        Check.is("day 150", Check.tell(pit, "cap from 150 is 3;"), 1);
        Check.is("day 0", Check.tell(pit, "cap from 0 is 3;"), 1);
        Check.isFault(pit, "cap from 151 is 3;", 2, 9);
        Check.isFault(pit, "cap from 999999 is 3;", 2, 9);
    }

    private static String many(String what, int times) {
        return what.repeat(times);
    }

    private static void depth() {
        Pit pit = new Pit();
        Check.is("12 (", Check.tell(pit, "cap from 1 is " + many("(", 12) + "1" + many(")", 12) + ";"), 1);
        Check.isFault(pit, "cap from 1 is " + many("(", 13) + "1" + many(")", 13) + ";", 3, 26);
        Check.is("12 -", Check.tell(pit, "cap from 1 is " + many("-", 12) + "5;"), 1);
        Check.is("12 - come to", pit.rule(3, 1, 0, 0, 0, 0, 0), 5);
        Check.isFault(pit, "cap from 1 is " + many("-", 13) + "5;", 3, 26);
        Check.is("12 ? behind :", Check.tell(pit, "cap from 1 is " + many("0?1:", 12) + "2;"), 1);
        Check.is("they come to", pit.rule(3, 1, 0, 0, 0, 0, 0), 2);
        Check.isFault(pit, "cap from 1 is " + many("0?1:", 13) + "2;", 3, 14 + 4 * 12 + 1);
        Check.is("12 ? ahead of :", Check.tell(pit, "cap from 1 is " + many("1?", 12) + "2" + many(":3", 12) + ";"), 1);
        Check.isFault(pit, "cap from 1 is " + many("1?", 13) + "2" + many(":3", 13) + ";", 3, 14 + 25);
        // 12 deep of min(, which is a ( too
        Check.is("8 min and 4 -", Check.tell(pit,
                "cap from 1 is " + many("min(1,", 8) + "----1" + many(")", 8) + ";"), 1);
        Check.isFault(pit, "cap from 1 is " + many("min(1,", 8) + "-----1" + many(")", 8) + ";", 3, 14 + 48 + 4);
        Check.isFault(pit, "cap from 1 is " + many("(", 12) + "max(1,2)" + many(")", 12) + ";", 3, 14 + 12 + 3);
        // what is closed does not count any more
        Check.is("12 times one ( ", Check.tell(pit, "cap from 1 is (1)" + many("+(1)", 12) + ";"), 1);
        Check.is("13 times one -", Check.tell(pit, "cap from 1 is -1" + many("*-1", 12) + ";"), 1);
        Check.is("a - by itself is closed behind its factor", Check.tell(pit,
                "cap from 1 is " + many("-", 12) + "5-" + many("-", 12) + "5?1:2;"), 1);
        Check.is("? is closed with its bracket", Check.tell(pit,
                "cap from 1 is (1?2:3)+" + many("(", 12) + "1" + many(")", 12) + ";"), 1);
        Check.isFault(pit, "cap from 1 is 1?" + many("(", 12) + "1" + many(")", 12) + ":1;", 3, 16 + 11);
        Check.isFault(pit, "cap from 1 is 1?2:" + many("(", 12) + "1" + many(")", 12) + ";", 3, 18 + 11);
        Check.is("the - of a sum is none", Check.tell(pit,
                "cap from 1 is 1-" + many("(", 12) + "1" + many(")", 12) + ";"), 1);
    }

    private static void tokenCount() {
        Pit pit = new Pit();
        String sixty = "-1" + many("+1", 29);
        Check.is("60 tokens", Check.tell(pit, LONG_EXPR_HEAD + sixty + ";"), 1);
        Check.is("they come to", pit.rule(3, 1, 0, 0, 0, 0, 0), 28);
        Check.isFault(pit, LONG_EXPR_HEAD + sixty + "+1;", 4, 14 + 60);
        Check.isFault(pit, LONG_EXPR_HEAD + "(" + many("1+", 29) + "1);", 4, 14 + 60);
        Check.isFault(pit, LONG_EXPR_HEAD + many("1+", 28) + "min(1,2);", 4, 14 + 56 + 3 + 3);
        Check.isFault(pit, LONG_EXPR_HEAD + many("1+", 29) + "1?2:3;", 4, 14 + 60);
        Check.isFault(pit, LONG_EXPR_HEAD + many("1+", 30) + "1?2:3;", 4, 14 + 60);
        Check.isFault(pit, LONG_EXPR_HEAD + sixty, 2, 14 + 60);
        Check.is("each expression has its own 60", Check.tell(pit,
                LONG_EXPR_HEAD + sixty + ";" + LONG_EXPR_HEAD + sixty + ";"), 2);
    }

    private static void ruleCount() {
        Pit pit = new Pit();
        String one = "fee from 0 is 1;";
        Check.is("29", Check.tell(pit, many(one, 29)), 29);
        Check.isFault(pit, one + one, 4, 16);
        Check.is("the thirtieth", Check.tell(pit, one), 1);
        Check.is("count(4)", pit.count(4), 30);
        Check.isFault(pit, "\n" + one, 4, 1);
        Check.isFault(pit, "day", 2, 0);
        Check.is("no rule more", Check.tell(pit, "  "), 0);
        Pit other = new Pit();
        Check.isFault(other, many(one, 30) + one, 4, 480);
        Check.is("30 in one text", Check.tell(other, many(one, 30)), 30);
    }

    private static void leastFaultOfOnePlace() {
        Pit pit = new Pit();
        // misplaced, and no token: 1
        Check.isFault(pit, "cap from 1 is 1 1000000;", 1, 16);
        Check.isFault(pit, "cap from 1 is 1 lot;", 1, 16);
        Check.isFault(pit, "1000000", 1, 0);
        // misplaced as the 61st token: 2
        Check.isFault(pit, LONG_EXPR_HEAD + "-1" + many("+1", 29) + "day;", 2, 14 + 60);
        Check.isFault(pit, LONG_EXPR_HEAD + "-1" + many("+1", 29) + ")", 2, 14 + 60);
        // too deep as the 61st token: 3; as the 60th token it is 3 anyway
        String twelve = many("(", 12) + many("1+", 24);
        Check.isFault(pit, LONG_EXPR_HEAD + twelve + "(1", 3, 14 + 60);
        Check.isFault(pit, LONG_EXPR_HEAD + twelve + "-1", 3, 14 + 60);
        Check.isFault(pit, LONG_EXPR_HEAD + twelve + "1", 4, 14 + 60);
        // the first by place counts, whatever its number
        Check.isFault(pit, LONG_EXPR_HEAD + many("(", 13) + "%", 3, 26);
        Check.isFault(pit, "cap cap %", 2, 4);
    }

    private static void inForce() {
        Pit pit = new Pit();
        Check.tell(pit, "cap from 10 is 1; cap from 20 is 2; cap from 10 is 3; cap from 5 is 4; first from 0 is 9;");
        Check.is("ahead of any", pit.rule(3, 4, 0, 0, 0, 0, 0), 1000);
        Check.is("on its day", pit.rule(3, 5, 0, 0, 0, 0, 0), 4);
        Check.is("up to", pit.rule(3, 9, 0, 0, 0, 0, 0), 4);
        Check.is("of one day the last told", pit.rule(3, 10, 0, 0, 0, 0, 0), 3);
        Check.is("up to the next", pit.rule(3, 19, 0, 0, 0, 0, 0), 3);
        Check.is("the greatest day", pit.rule(3, 20, 0, 0, 0, 0, 0), 2);
        Check.is("for ever", pit.rule(3, 150, 0, 0, 0, 0, 0), 2);
        Check.tell(pit, "cap from 20 is 7; limit from 3 is 8;");
        Check.is("told later", pit.rule(3, 20, 0, 0, 0, 0, 0), 7);
        Check.is("limit ahead", pit.rule(0, 2, 0, 0, 0, 0, 0), 1000);
        Check.is("limit", pit.rule(0, 3, 0, 0, 0, 0, 0), 8);
        Check.is("keep is not first", pit.rule(2, 3, 0, 0, 0, 0, 0), 0);
    }

    private static void comesTo(String expr, int due) {
        Pit pit = new Pit();
        Check.is("rules() of " + expr, Check.tell(pit, "diff from 0 is " + expr + ";"), 1);
        Check.is(expr, pit.rule(4, 2, 3, 5, 7, 11, 13), due);
    }

    private static void expressions() {
        comesTo("day", 2);
        comesTo("month", 3);
        comesTo("price", 5);
        comesTo("lots", 7);
        comesTo("grade", 11);
        comesTo("place", 13);
        comesTo("10 - 3 - 2", 5);
        comesTo("10 - 3 + 2", 9);
        comesTo("2 + 3 * 4", 14);
        comesTo("2 * 3 + 4", 10);
        comesTo("(2 + 3) * 4", 20);
        comesTo("100 / 10 / 5", 2);
        comesTo("100 / 10 * 5", 50);
        comesTo("7 / 2", 3);
        comesTo("-7 / 2", -3);
        comesTo("7 / -2", -3);
        comesTo("-7 / -2", 3);
        comesTo("7 / 0", 0);
        comesTo("7 / (day - 2) + 1", 1);
        comesTo("- - 5", 5);
        comesTo("3 - - 5", 8);
        comesTo("-2 * 3", -6);
        comesTo("2 * -3", -6);
        comesTo("-(2 + 3)", -5);
        comesTo("1 < 2", 1);
        comesTo("2 < 2", 0);
        comesTo("2 > 2", 0);
        comesTo("3 > 2", 1);
        comesTo("2 = 2", 1);
        comesTo("2 = 3", 0);
        comesTo("1 + 1 < 1 + 2", 1);
        comesTo("(1 < 2) + (3 > 2)", 2);
        comesTo("-1 < 0", 1);
        comesTo("1 ? 2 : 3", 2);
        comesTo("0 ? 2 : 3", 3);
        comesTo("-4 ? 2 : 3", 2);
        comesTo("1 ? 0 ? 4 : 5 : 6", 5);
        comesTo("0 ? 1 : 0 ? 2 : 3", 3);
        comesTo("1 ? 1 : 0 ? 2 : 3", 1);
        comesTo("lots > 5 ? price * 2 : price", 10);
        comesTo("1 = 2 ? 3 : 4 + 1", 5);
        comesTo("(1 ? 2 : 3) + 1", 3);
        comesTo("1 ? 2 : 3 < 0", 2);
        comesTo("0 ? 2 : 3 < 0", 0);
        comesTo("min(3, 2)", 2);
        comesTo("max(3, 2)", 3);
        comesTo("min(2, 3) * max(4, 5)", 10);
        comesTo("min(-3, max(1, 2) - 9)", -7);
        comesTo("max(1 ? 2 : 3, 0 ? 4 : 5)", 5);
        comesTo("min(1 < 2, 9)", 1);
        comesTo("-min(1, 2)", -1);
        comesTo("1-1", 0);
        comesTo("1 ? 7 : 1 / 0", 7);
    }

    private static void wrapping() {
        comesTo("999999 * 999999", (int) (999999L * 999999L));
        comesTo("65536 * 65536", 0);
        comesTo("65536 * 32768", Integer.MIN_VALUE);
        comesTo("65536 * 32768 - 1", Integer.MAX_VALUE);
        comesTo("65536 * 32768 / -1", Integer.MIN_VALUE);
        comesTo("-(65536 * 32768)", Integer.MIN_VALUE);
        comesTo("65536 * 32768 < 0", 1);
        comesTo("65536 * 32768 - 1 > 65536 * 32768", 1);
        comesTo("65536 * 32768 - 1 + 1 < 0", 1);
        Pit pit = new Pit();
        Check.tell(pit, "fee from 0 is price + lots; keep from 0 is grade / place;");
        Check.is("words go round", pit.rule(5, 0, 0, Integer.MAX_VALUE, 1, 0, 0), Integer.MIN_VALUE);
        Check.is("least by -1", pit.rule(2, 0, 0, 0, 0, Integer.MIN_VALUE, -1), Integer.MIN_VALUE);
    }

    private static void ruleRefuses() {
        Pit pit = new Pit();
        Check.isMissing("name -1", () -> pit.rule(-1, 0, 0, 0, 0, 0, 0));
        Check.isMissing("name 6", () -> pit.rule(6, 0, 0, 0, 0, 0, 0));
        Check.isMissing("day -1", () -> pit.rule(0, -1, 0, 0, 0, 0, 0));
        Check.isMissing("day 151", () -> pit.rule(0, 151, 0, 0, 0, 0, 0));
        Check.is("day 150", pit.rule(0, 150, -5, -5, -5, -5, -5), 1000);
        Check.is("a day to come", pit.rule(3, 0, 99, 99, 99, 99, 99), 1000);
    }
}
