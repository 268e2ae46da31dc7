/** The boundary cases of promises 2 to 6 and of Terms 2, each by the sentence that names it. */
public final class TextEdgesTest {
    private static final int BLANKS = 0x20202020;
    private static final String[] NAMES = {"limit", "first", "keep", "cap", "diff", "fee"};
    private static final String[] WORDS = {"day", "month", "price", "lots", "grade", "place"};
    private static final String HEAD = "cap from 1 is ";

    private TextEdgesTest() {
    }

    public static void main(String[] args) {
        everyByteHasItsPlace();
        notMoreThanSixHundredBytes();
        theFirstBytesAlone();
        theTapeIsEmptyThen();
        aTextOfSixHundredBytes();
        noneOfThemCounts();
        anyNumberOfRules();
        daysOfRules();
        inForceFromItsDayOn();
        toldLastWithTheGreatestDay();
        withoutAny();
        faultsOfTheLatest();
        namesAndDaysOfRule();
        wordsOfRule();
        Check.finish("TextEdgesTest");
    }

    private static Pit blanksBut(int feeds, int at, int value) {
        Pit pit = new Pit();
        for (int f = 0; f < feeds; f++) {
            int[] five = {BLANKS, BLANKS, BLANKS, BLANKS, BLANKS};
            if (at / 20 == f) {
                int shift = 24 - at % 4 * 8;
                five[at % 20 / 4] = BLANKS & ~(255 << shift) | value << shift;
            }
            Check.is("feed", pit.feed(five[0], five[1], five[2], five[3], five[4]), 20 * (f + 1));
        }
        return pit;
    }

    /** "Twenty bytes come behind THE TAPE, of each number the highest first". */
    private static void everyByteHasItsPlace() {
        for (int at = 0; at < 60; at++) {
            for (int value : new int[] {0, 127, 128, 255}) {
                Pit pit = blanksBut(3, at, value);
                Check.is("rules() with byte " + value + " at " + at, pit.rules(), GrainPit.NONE);
                Check.is("its fault", pit.fault(0), 1);
                Check.is("its place", pit.fault(1), at);
            }
        }
        Check.is("the last of 600", blanksBut(30, 599, 128).rules(), GrainPit.NONE);
        Check.is("a newline is no fault", blanksBut(30, 599, 10).rules(), 0);
    }

    /** "NONE, and none come, if there would be more than 600" (the refused ones: RefusedTest). */
    private static void notMoreThanSixHundredBytes() {
        Check.is("the first", new Pit().feed(0, 0, 0, 0, 0), 20);
        Check.is("from 579 to 599", Scenes.tape(579).feed(0, 0, 0, 0, 0), 599);
        Check.is("from 580 to 600", Scenes.tape(580).feed(0, 0, 0, 0, 0), 600);
        Check.is("from 581 to 601", Scenes.tape(581).feed(0, 0, 0, 0, 0), GrainPit.NONE);
        Pit pit = Scenes.tape(581);
        pit.feed(-1, -1, -1, -1, -1);
        Check.is("none came", pit.count(8), 581);
        Check.is("not one of the twenty", pit.rules(), 0);
        Pit full = Scenes.tape(600);
        full.feed(-1, -1, -1, -1, -1);
        Check.is("there is room again", full.end(580), true);
        Check.is("up to 600", full.feed(BLANKS, BLANKS, BLANKS, BLANKS, BLANKS), 600);
        Check.is("nothing of what was refused", full.rules(), 0);
    }

    /** "THE TAPE has its first n bytes alone: true; false if it has not so many, or n is below 0". */
    private static void theFirstBytesAlone() {
        Pit pit = new Pit();
        Check.is("end(0) of none", pit.end(0), true);
        pit.feed(BLANKS, BLANKS, BLANKS, BLANKS, -1);
        Check.is("all it has", pit.end(20), true);
        Check.is("one more", pit.end(21), false);
        Check.is("one less", pit.end(19), true);
        Check.is("what is gone is gone", pit.end(20), false);
        Check.is("19 are left", pit.count(8), 19);
        Check.is("below 0", pit.end(-1), false);
        Check.is("the first 16", pit.end(16), true);
        Check.is("others come behind these", pit.feed(BLANKS, BLANKS, BLANKS, BLANKS, 0x2020207b), 36);
        Check.is("rules()", pit.rules(), GrainPit.NONE);
        Check.is("the place of the last byte", pit.fault(1), 35);
        Pit none = Scenes.tape(600);
        Check.is("none of 600", none.end(0), true);
        Check.is("none is left", none.count(8), 0);
        Check.is("one of none", none.end(1), false);
    }

    /** "THE TAPE, which is empty then". */
    private static void theTapeIsEmptyThen() {
        Pit pit = new Pit();
        Check.is("an empty one", pit.rules(), 0);
        Check.is("is empty", pit.count(8), 0);
        Check.lay(pit, "fee from 0 is 1;");
        Check.is("a good one", pit.rules(), 1);
        Check.is("is empty", pit.count(8), 0);
        Check.is("nothing is told twice", pit.rules(), 0);
        Check.is("one rule", pit.count(4), 1);
        Check.lay(pit, "fee from 0 is 1;?");
        Check.is("one with a FAULT", pit.rules(), GrainPit.NONE);
        Check.is("is empty", pit.count(8), 0);
        Check.is("the FAULT is gone with it", pit.rules(), 0);
        Check.lay(pit, " ".repeat(600));
        Check.is("a full one", pit.rules(), 0);
        Check.is("is empty", pit.count(8), 0);
        Check.is("has all its room", pit.feed(0, 0, 0, 0, 0), 20);
    }

    /** "A TEXT (at most 600 bytes)". */
    private static void aTextOfSixHundredBytes() {
        String rule = "fee from 0 is 7;";
        Pit pit = new Pit();
        Check.is("its last byte ends a rule", Check.tell(pit, " ".repeat(584) + rule), 1);
        Check.is("fee", pit.rule(5, 0, 0, 0, 0, 0, 0), 7);
        Check.isFault(new Pit(), " ".repeat(585) + "fee from 0 is 7", 2, 600);
        Check.isFault(new Pit(), " ".repeat(599) + "%", 1, 599);
        Check.isFault(new Pit(), " ".repeat(599) + "?", 2, 599);
        Check.isFault(new Pit(), " ".repeat(599) + "1", 2, 599);
        Check.isFault(new Pit(), " ".repeat(597) + "fee", 2, 600);
        Check.isFault(new Pit(), " ".repeat(598) + "fe", 1, 598);
        Check.isFault(new Pit(), " ".repeat(599) + "f", 1, 599);
        Check.isFault(new Pit(), "a".repeat(600), 1, 0);
        Check.isFault(new Pit(), "9".repeat(600), 1, 0);
        Pit zeros = new Pit();
        Check.is("a NUMBER of 585 digits", Check.tell(zeros, "fee from 0 is " + "0".repeat(579) + "999999;"), 1);
        Check.is("fee", zeros.rule(5, 0, 0, 0, 0, 0, 0), 999999);
        Check.isFault(new Pit(), "fee from 0 is " + "0".repeat(578) + "1000000;", 1, 14);
    }

    /** "NONE, and none of them counts: it has a FAULT". */
    private static void noneOfThemCounts() {
        String good = "cap from 3 is 5;limit from 0 is 6;fee from 0 is 8;";
        String[] wrong = {"?", "cap", "cap from", "cap from 2", "cap from 151", "cap from 2 is", "cap from 2 is 4",
            "cap from 2 is 4;;", "cap from 2 is 4;%", "%", "cap from 2 is 1000000;"};
        for (String behind : wrong) {
            Pit pit = new Pit();
            Check.tell(pit, "cap from 3 is 9;");
            Check.is("rules() with " + behind + " behind", Check.tell(pit, good + behind), GrainPit.NONE);
            Check.is("rules there are", pit.count(4), 1);
            Check.is("cap", pit.rule(3, 3, 0, 0, 0, 0, 0), 9);
            Check.is("cap ahead of it", pit.rule(3, 2, 0, 0, 0, 0, 0), 1000);
            Check.is("limit", pit.rule(0, 0, 0, 0, 0, 0, 0), 1000);
            Check.is("fee", pit.rule(5, 0, 0, 0, 0, 0, 0), 0);
            Check.is("a good one behind it", Check.tell(pit, good), 3);
            Check.is("cap then", pit.rule(3, 3, 0, 0, 0, 0, 0), 5);
        }
    }

    /** "A TEXT: any number of: NAME from NUMBER is EXPR ;". */
    private static void anyNumberOfRules() {
        Check.is("none in no bytes", new Pit().rules(), 0);
        Check.is("none in a blank", Check.tell(new Pit(), " "), 0);
        Check.is("none in a newline", Check.tell(new Pit(), "\n"), 0);
        for (int many = 1; many <= 30; many++) {
            Pit pit = new Pit();
            Check.is("rules() of " + many, Check.tell(pit, "fee from 0 is 1;".repeat(many)), many);
            Check.is("count(4)", pit.count(4), many);
        }
    }

    /** "It is in force from DAY NUMBER (0 .. 150) on". */
    private static void daysOfRules() {
        for (String day : new String[] {"0", "1", "149", "150", "000", "0000000150"}) {
            Check.is("from " + day, Check.tell(new Pit(), "fee from " + day + " is 1;"), 1);
        }
        for (String day : new String[] {"151", "152", "256", "999999", "000151"}) {
            Check.isFault(new Pit(), "fee from " + day + " is 1;", 2, 9);
        }
        Check.isFault(new Pit(), "fee from 1000000 is 1;", 1, 9);
        Check.isFault(new Pit(), "fee from 4294967296 is 1;", 1, 9);
        Check.isFault(new Pit(), "fee from -1 is 1;", 2, 9);
    }

    private static void inForceFromItsDayOn() {
        for (int from : new int[] {0, 1, 75, 149, 150}) {
            for (int name = 0; name < 6; name++) {
                Pit pit = new Pit();
                Check.tell(pit, NAMES[name] + " from " + from + " is 7;");
                int without = name == 0 || name == 3 ? 1000 : 0;
                for (int day = 0; day <= 150; day++) {
                    Check.is(NAMES[name] + " from " + from + " on " + day,
                            pit.rule(name, day, 0, 0, 0, 0, 0), day < from ? without : 7);
                }
            }
        }
    }

    /** "on a DAY the one of its NAME that was told last, of those in force with the greatest DAY". */
    private static void toldLastWithTheGreatestDay() {
        Pit pit = new Pit();
        Check.tell(pit, "fee from 150 is 1; fee from 149 is 2;");
        Check.is("the greater, though told first", pit.rule(5, 150, 0, 0, 0, 0, 0), 1);
        Check.is("the day ahead", pit.rule(5, 149, 0, 0, 0, 0, 0), 2);
        Check.tell(pit, "fee from 149 is 3;");
        Check.is("of one DAY the last", pit.rule(5, 149, 0, 0, 0, 0, 0), 3);
        Check.is("of a lesser DAY none", pit.rule(5, 150, 0, 0, 0, 0, 0), 1);
        Check.tell(pit, "fee from 150 is 4; fee from 150 is 5; fee from 0 is 6; keep from 150 is 9;");
        Check.is("of one DAY and one text the last", pit.rule(5, 150, 0, 0, 0, 0, 0), 5);
        Check.is("DAY 0", pit.rule(5, 0, 0, 0, 0, 0, 0), 6);
        Check.is("up to the next", pit.rule(5, 148, 0, 0, 0, 0, 0), 6);
        Check.is("another NAME's", pit.rule(2, 150, 0, 0, 0, 0, 0), 9);
    }

    /** "Without any: limit 1000, cap 1000, all others 0". */
    private static void withoutAny() {
        int[] without = {1000, 0, 0, 1000, 0, 0};
        Pit pit = new Pit();
        Pit others = new Pit();
        for (int name = 0; name < 6; name++) {
            for (int day : new int[] {0, 1, 149, 150}) {
                Check.is(NAMES[name] + " on " + day, pit.rule(name, day, 5, 99, 9, 3, 3), without[name]);
            }
        }
        for (int name = 0; name < 6; name++) {
            Check.is(NAMES[name] + " with the others", others.rule(name, 150, 5, 99, 9, 3, 3), without[name]);
            Check.tell(others, NAMES[name] + " from 0 is 77;");
            Check.is(NAMES[name] + " told", others.rule(name, 150, 5, 99, 9, 3, 3), 77);
        }
    }

    /** "Of the latest rules(), what 0: its FAULT (0 without), 1: its place. NONE for another what". */
    private static void faultsOfTheLatest() {
        Pit pit = new Pit();
        Check.is("ahead of any", pit.fault(0), 0);
        Check.isFault(pit, HEAD + "(".repeat(13), 3, 26);
        Check.isFault(pit, "   %", 1, 3);
        pit.feed(0, 0, 0, 0, 0);
        pit.end(0);
        Check.is("feed and end leave it", pit.fault(0), 1);
        Check.is("feed and end leave its place", pit.fault(1), 3);
        Check.is("an empty one", pit.rules(), 0);
        Check.is("is without", pit.fault(0), 0);
        Check.is("what 2", pit.fault(2), GrainPit.NONE);
        Check.is("what -1", pit.fault(-1), GrainPit.NONE);
        Check.isFault(pit, "%", 1, 0);
        Check.is("a good one", Check.tell(pit, HEAD + "3;"), 1);
        Check.is("is without", pit.fault(0), 0);
    }

    /** "NoSuchElementException: no such NAME, DAY" (the refused ones: RefusedTest). */
    private static void namesAndDaysOfRule() {
        Pit pit = new Pit();
        for (int name = -2; name <= 7; name++) {
            int n = name;
            if (name < 0 || name > 5) {
                Check.isMissing("name " + name, () -> pit.rule(n, 0, 0, 0, 0, 0, 0));
            } else {
                Check.is("name " + name, pit.rule(n, 0, 0, 0, 0, 0, 0), name % 3 == 0 ? 1000 : 0);
            }
        }
        for (int day : new int[] {-1, 151}) {
            Check.isMissing("day " + day, () -> pit.rule(0, day, 0, 0, 0, 0, 0));
        }
        Check.is("day 0", pit.rule(0, 0, 0, 0, 0, 0, 0), 1000);
        Check.is("day 150", pit.rule(0, 150, 0, 0, 0, 0, 0), 1000);
    }

    /** "on a DAY (0 .. 150) with these WORDS": any numbers, not only those of the exchange. */
    private static void wordsOfRule() {
        int[] edges = {Integer.MIN_VALUE, -1, 0, 1, 6, 10001, Integer.MAX_VALUE};
        for (int word = 1; word < 6; word++) {
            Pit pit = new Pit();
            Check.tell(pit, "diff from 0 is " + WORDS[word] + ";");
            for (int edge : edges) {
                int[] given = {9, 9, 9, 9, 9};
                given[word - 1] = edge;
                Check.is(WORDS[word] + " " + edge,
                        pit.rule(4, 9, given[0], given[1], given[2], given[3], given[4]), edge);
            }
        }
        Pit pit = new Pit();
        Check.tell(pit, "diff from 0 is day;");
        Check.is("day 0", pit.rule(4, 0, 9, 9, 9, 9, 9), 0);
        Check.is("day 150", pit.rule(4, 150, 9, 9, 9, 9, 9), 150);
    }
}
