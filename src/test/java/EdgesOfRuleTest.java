/** The RULE of section 2 and promise 8 (rule), a sentence at a time. */
public final class EdgesOfRuleTest {
    private static final Due DUE = new Due("EdgesOfRuleTest");
    private static final String LEAST = "* * 4096 4096 128";
    private static final String GREATEST = "- " + LEAST + " 1";
    private static final int NOT_WORKED = Integer.MIN_VALUE + 1;

    /** A of zone 0 and Z of zone 39, a TEAM; a contact with Z and one with itself on each band. */
    private static ContactHouse house() {
        ContactHouse h = new ContactHouse();
        Due.station(h, "A", 0, 0, 0, 0);
        Due.station(h, "Z", 4, 39, 99, 99);
        for (int band = 0; band < 3; band++) {
            Due.log(h, 0, band, "q 1 Z", "q 1 A", "q 1 N");
        }
        return h;
    }

    private static void reads(String words, int answer) {
        ContactHouse h = new ContactHouse();
        DUE.is("rule '" + words + "'", Due.rule(h, words), answer);
    }

    /** What a rule gives, or NOT_WORKED if something is divided by 0. */
    private static void gives(String words, int value) {
        ContactHouse h = house();
        DUE.is("'" + words + "' is a rule", Due.rule(h, words), words.trim().split(" +").length);
        boolean isWorked = value != NOT_WORKED;
        DUE.ask(h, "points by '" + words + "'", h.points(0, 1, 0), isWorked ? value : 0, isWorked ? 0 : 5);
    }

    private static void numbers() {
        DUE.by("THE RULE, by which the POINTS of a contact are worked, is told in words: an EXPRESSION is a number (1 to 4 digits);");
        gives("0", 0);
        gives("9", 9);
        gives("0000", 0);
        gives("0009", 9);
        gives("9999", 9999);
        reads("00000", -1);
        reads("10000", -1);
        for (String off : new String[] {"-1", "+1", "1a", "a", "/1", ":", "1:", "\0", "1\n", "\u00b9"}) {
            reads(off, -1);
        }
    }

    private static void names() {
        DUE.by("band, kind, zone, mine, far (the band; the KIND of the station whose CALL it is; that one's ZONE; one's own ZONE;");
        ContactHouse h = house();
        String[] names = {"band", "kind", "zone", "mine", "far"};
        int[][] values = {{2, 2}, {4, 0}, {39, 0}, {0, 0}, {140, 0}};
        for (int n = 0; n < names.length; n++) {
            DUE.is("rule " + names[n], Due.rule(h, names[n]), 1);
            DUE.ask(h, names[n] + " of Z", h.points(0, 2, 0), values[n][0], 0);
            DUE.ask(h, names[n] + " of itself", h.points(0, 2, 1), values[n][1], 0);
        }
        Due.rule(h, "band");
        DUE.is("band 0", h.points(0, 0, 0), 0);
        DUE.is("band 1", h.points(0, 1, 0), 1);
        for (String off : new String[] {"Band", "ban", "bands", "BAND", "kin", "zones", "min", "mined", "fa", "farr", "q", "x", "A"}) {
            reads(off, -1);
        }
        h = new ContactHouse();
        Due.station(h, "B", 0, 39, 0, 0);
        Due.station(h, "C", 1, 38, 0, 0);
        Due.log(h, 0, 0, "q 1 C");
        Due.rule(h, "- * 100 mine zone");
        DUE.is("mine and zone are two", h.points(0, 0, 0), 3900 - 38);
    }

    private static void howFar() {
        DUE.by("how far the two SQUARES are from one another: the greatest whole number whose square is not above"
            + " the sum of the squares of the differences of x and of y);");
        for (int dx = 0; dx < 100; dx++) {
            for (int dy = 0; dy <= dx; dy++) {
                int far = 0;
                while ((far + 1) * (far + 1) <= dx * dx + dy * dy) {
                    far++;
                }
                ContactHouse h = new ContactHouse();
                Due.station(h, "A", 0, 0, 99, 99 - dy);
                Due.station(h, "B", 0, 0, 99 - dx, 99);
                Due.rule(h, "far");
                Due.log(h, 0, 0, "q 1 B");
                Due.log(h, 1, 0, "q 1 A");
                DUE.is("far of " + dx + ", " + dy, h.points(0, 0, 0), far);
                DUE.is("and back", h.points(1, 0, 0), far);
            }
        }
    }

    private static void operators() {
        DUE.by("or an operator and what it is worked on, each an EXPRESSION: + - * / (two of them), ? (three:");
        gives("+ 7 5", 12);
        gives("- 7 5", 2);
        gives("* 7 5", 35);
        gives("/ 7 5", 1);
        gives("? 7 5 3", 5);
        gives("- - 9 1 - 4 1", 5);
        gives("? - 1 1 + 1 1 * 3 3", 9);
        for (String operator : new String[] {"+", "-", "*", "/"}) {
            reads(operator, -2);
            reads(operator + " 1", -4);
            reads(operator + " 1 2", 3);
            reads(operator + " 1 2 3", -7);
        }
        reads("?", -2);
        reads("? 1 2", -6);
        reads("? 1 2 3", 4);
        reads("? 1 2 3 4", -9);
        for (String off : new String[] {"%", "^", "**", "+-", "??", "?1", "=", "!"}) {
            reads(off + " 1 2", -1);
        }
    }

    private static void choices() {
        DUE.by("the second one, if the first one is above 0, else the third one;");
        gives("? 1 5 6", 5);
        gives("? 9999 5 6", 5);
        gives("? 0 5 6", 6);
        gives("? - 0 1 5 6", 6);
        gives("? " + GREATEST + " 5 6", 5);
        gives("? " + LEAST + " 5 6", 6);
        gives("? + " + GREATEST + " 1 5 6", 6);
    }

    private static void notWorked() {
        DUE.by("the other one is not worked).");
        gives("? 1 5 / 1 0", 5);
        gives("? 0 / 1 0 6", 6);
        gives("? 1 ? 0 / 1 0 7 / 1 0", 7);
        gives("? 0 + 1 / 1 0 6", 6);
        gives("? 1 / 1 0 6", NOT_WORKED);
        gives("? 0 5 / 1 0", NOT_WORKED);
        gives("? / 1 0 5 6", NOT_WORKED);
        gives("? ? 1 1 / 1 0 5 / 1 0", 5);
    }

    private static void wrapping() {
        DUE.by("Ints that wrap;");
        gives(LEAST, Integer.MIN_VALUE);
        gives(GREATEST, Integer.MAX_VALUE);
        gives("+ " + GREATEST + " 1", Integer.MIN_VALUE);
        gives("- - 0 " + GREATEST + " 2", Integer.MAX_VALUE);
        gives("- 0 " + LEAST, Integer.MIN_VALUE);
        gives("* 2 " + LEAST, 0);
        gives("* " + GREATEST + " " + GREATEST, 1);
        gives("+ " + LEAST + " " + LEAST, 0);
        gives("* * 9999 9999 9999", -1027349969);
    }

    private static void divisions() {
        DUE.by("/ is cut off towards 0.");
        gives("/ 7 2", 3);
        gives("/ - 0 7 2", -3);
        gives("/ 7 - 0 2", -3);
        gives("/ - 0 7 - 0 2", 3);
        gives("/ 1 2", 0);
        gives("/ - 0 1 2", 0);
        gives("/ 0 5", 0);
        gives("/ " + LEAST + " - 0 1", Integer.MIN_VALUE);
        gives("/ " + LEAST + " 1", Integer.MIN_VALUE);
        gives("/ 1 0", NOT_WORKED);
        gives("/ 0 0", NOT_WORKED);
        gives("/ 1 / 1 2", NOT_WORKED);
        gives("* 0 / 1 0", NOT_WORKED);
        gives("/ / 1 0 1", NOT_WORKED);
    }

    /** Fifteen words, with operators at most three within one another. */
    private static final String FIFTEEN = "+ + + 1 1 + 1 1 + + 1 1 + 1 1";

    private static void thirtyWords() {
        DUE.by("It has at most 30 words,");
        String twentyNine = "+ " + FIFTEEN + " + + + 1 1 + 1 1 + + 1 1 1";
        reads(twentyNine, 29);
        String thirty = "? 1 " + FIFTEEN + " + + + 1 1 + 1 1 + + 1 1 1";
        reads(thirty, 30);
        String thirtyOne = "+ " + FIFTEEN + " " + FIFTEEN;
        reads(thirtyOne, -1 - (thirtyOne.length() - 1));
        gives(thirty, 8);
    }

    private static void eightOperators() {
        DUE.by("and at most 8 operators one within the other.");
        for (String operator : new String[] {"+ 1", "- 1", "* 1", "/ 1", "? 1 1", "? 0 1"}) {
            reads((operator + " ").repeat(8) + "1", 8 * (operator.length() + 1) / 2 + 1);
            reads((operator + " ").repeat(9) + "1", -1 - 8 * (operator.length() + 1));
        }
        reads("+ ".repeat(8) + "1 ".repeat(9), 17);
        reads("+ ".repeat(9) + "1 ".repeat(10), -1 - 16);
        reads("? ".repeat(8) + "1 ".repeat(17), 25);
        reads("? ".repeat(9) + "1 ".repeat(19), -1 - 16);
        // Ten operators, of which none has more than seven around it.
        reads("+ " + "+ 1 ".repeat(7) + "1 " + "+ 1 ".repeat(2) + "1", 21);
        // The ninth is the second operand of the eighth.
        reads("+ 1 ".repeat(8) + "+ 1 1", -1 - 32);
        // An operand that has ended is not around what stands behind it.
        reads("+ + + + + + + + 1 1 1 + 1 1 1 1 1 1 1", 19);
    }

    private static void atFirst() {
        DUE.by("At first the RULE is 1.");
        ContactHouse h = house();
        DUE.ask(h, "another one's call", h.points(0, 0, 0), 1, 0);
        DUE.ask(h, "its own call", h.points(0, 2, 1), 1, 0);
        DUE.ask(h, "no station's call", h.points(0, 0, 2), 0, 0);
    }

    private static void howManyWords() {
        DUE.by("The TAPE is the RULE. Answers how many words it has;");
        reads("1", 1);
        reads("   1   ", 1);
        reads("+  1  2", 3);
        reads(" ".repeat(999) + "1", 1);
        ContactHouse h = house();
        DUE.is("a rule", Due.rule(h, "+ 2 3"), 3);
        DUE.is("by it", h.points(0, 0, 0), 5);
        DUE.is("another one", Due.rule(h, "7"), 1);
        DUE.is("by that one", h.points(0, 0, 0), 7);
        DUE.is("the tape is empty", h.count(1), 0);
    }

    private static void refusedRuleStays() {
        DUE.by("else (and the RULE stays)");
        String[] refused = {"", "   ", "zones", "8 8", "+ 8", "+ 8 x", "+ 8 8 8", "? 8 8", "+ ".repeat(9) + "8 ".repeat(10),
            "+ " + FIFTEEN + " " + FIFTEEN, "88888"};
        ContactHouse h = house();
        Due.rule(h, "+ zone 3");
        for (String words : refused) {
            DUE.is("'" + words + "' is refused", Due.rule(h, words) < 0 ? 1 : 0, 1);
            DUE.is("the rule stays", h.points(0, 0, 0), 42);
            DUE.is("the tape is empty", h.count(1), 0);
        }
        h = house();
        Due.rule(h, "+ 8");
        DUE.is("the first rule stays", h.points(0, 0, 0), 1);
        for (String words : refused) {
            Due.rule(h, words);
            DUE.is("nothing is left of '" + words + "'", Due.rule(h, "+ 1 ".repeat(8) + "band"), 17);
            DUE.is("the next one is the rule", h.points(0, 2, 0), 10);
        }
    }

    private static void notAsTold() {
        DUE.by("-1 less the place of the first byte of the first word that is not as told,");
        reads("x", -1);
        reads("   x", -4);
        reads("+ x y", -3);
        reads("+ 1   xyz", -7);
        reads("? 1 2 band3", -7);
        reads("+ 1\n2 3", -3);
        reads(" ".repeat(999) + "x", -1000);
        // The first of two that are off.
        reads("+ x " + "+ ".repeat(20), -3);
        reads("+ ".repeat(9) + "x", -17);
    }

    private static void tooMuch() {
        DUE.by("or that is too much,");
        reads("1 2", -3);
        reads("1   2 3", -5);
        reads("+ 1 2 3", -7);
        reads("+ 1 2 +", -7);
        reads("1 x", -3);
        reads("1" + " ".repeat(998) + "2", -1000);
    }

    private static void passed() {
        DUE.by("or where 30 words, 8 operators are passed;");
        String thirty = "? 1 " + FIFTEEN + " + + + 1 1 + 1 1 + + 1 1 1";
        reads(thirty + "   1", -1 - thirty.length() - 3);
        String thirtyAndMore = "+ " + FIFTEEN + " " + FIFTEEN.substring(0, FIFTEEN.length() - 2);
        reads(thirtyAndMore + "   1", -1 - thirtyAndMore.length() - 3);
        reads(thirtyAndMore + "   + 1 1", -1 - thirtyAndMore.length() - 3);
        reads(thirtyAndMore + "   x", -1 - thirtyAndMore.length() - 3);
        reads("+ ".repeat(8) + "  + 1 1", -1 - 18);
        reads("+ ".repeat(8) + "1  ? 1 1 1", -1 - 19);
    }

    private static void oneLacks() {
        DUE.by("-1 less the length of the TAPE, if a word lacks.");
        reads("", -1);
        reads(" ", -2);
        reads(" ".repeat(1000), -1001);
        reads("+", -2);
        reads("+ 1   ", -7);
        reads("   +", -5);
        reads("+" + " ".repeat(999), -1001);
        reads("+ ".repeat(8), -17);
        String thirtyAndOneLacks = "+ " + FIFTEEN + " " + FIFTEEN.substring(0, FIFTEEN.length() - 2);
        reads(thirtyAndOneLacks, -1 - thirtyAndOneLacks.length());
    }

    public static void main(String[] args) {
        numbers();
        names();
        howFar();
        operators();
        choices();
        notWorked();
        wrapping();
        divisions();
        thirtyWords();
        eightOperators();
        atFirst();
        howManyWords();
        refusedRuleStays();
        notAsTold();
        tooMuch();
        passed();
        oneLacks();
        DUE.end();
    }
}
