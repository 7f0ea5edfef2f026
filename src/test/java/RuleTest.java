/** Promises 8 (rule) and 20 (points): which rules are read, and what they give. */
public final class RuleTest {
    private static final Due DUE = new Due("RuleTest");

    private static void reads(String words, int answer) {
        ContactHouse h = new ContactHouse();
        DUE.is("rule '" + words + "'", Due.rule(h, words), answer);
        DUE.is("the tape is empty then", h.count(1), 0);
    }

    private static void forms() {
        reads("0", 1);
        reads("9999", 1);
        reads("0001", 1);
        reads("  band  ", 1);
        reads("+ kind zone", 3);
        reads("? mine far 1", 4);
        reads("", -1);
        reads("   ", -4);
        reads("10000", -1);
        reads("-1", -1);
        reads("Band", -1);
        reads("bands", -1);
        reads("++ 1 1", -1);
        reads("1\n", -1);
        reads("1 2", -3);
        reads("1  +", -4);
        reads("+ 1", -4);
        reads("+ 1  ", -6);
        reads("? 1 2", -6);
        reads("+ 1 x", -5);
        reads("+ x y", -3);
        reads("+ 1 2 x", -7);
    }

    private static void limitOfWords() {
        String seven = "+ + + 1 1 + 1 1 + + 1 1 1";
        String eight = "+ + + 1 1 + 1 1 + + 1 1 + 1 1";
        String thirty = "? " + eight + " " + seven + " 1";
        reads(thirty, 30);
        reads(thirty + " 1", -1 - (thirty.length() + 1));
        String thirtyOne = "+ " + eight + " " + eight;
        reads(thirtyOne, -1 - (thirtyOne.length() - 1));
        String thirtyAndOneLacks = "+ " + eight + " " + eight.substring(0, eight.length() - 2);
        reads(thirtyAndOneLacks, -1 - thirtyAndOneLacks.length());
    }

    private static void limitOfOperators() {
        reads("+ 1 ".repeat(8) + "1", 17);
        reads("+ 1 ".repeat(9) + "1", -1 - 32);
        reads("+ ".repeat(8) + "1" + " 1".repeat(8), 17);
        reads("+ ".repeat(9) + "1" + " 1".repeat(9), -1 - 16);
        reads("? ".repeat(8) + "1 1 1" + " 1 1".repeat(7), 25);
        reads("? 1 1 ".repeat(8) + "1", 25);
        reads("? 1 1 ".repeat(9) + "1", -1 - 48);
        // Operators that stand beside one another are not within one another.
        reads("+ " + "+ 1 ".repeat(7) + "1 " + "- 1 ".repeat(6) + "1", 29);
        reads("+ 1 ".repeat(7) + "+ + 1 1 1", -1 - 30);
    }

    /** Own zone 3 at 10, 20; the other one PORTABLE, zone 7, at 40, 61: 50.6 apart. Band 2. */
    private static ContactHouse house() {
        ContactHouse h = new ContactHouse();
        Due.station(h, "A", 0, 3, 10, 20);
        Due.station(h, "B", 2, 7, 40, 61);
        Due.log(h, 0, 2, "q 1 B", "q 1 A", "q 1 C", "r 1 2", "x");
        return h;
    }

    private static void gives(String words, int value) {
        ContactHouse h = house();
        Due.rule(h, words);
        DUE.ask(h, "points by '" + words + "'", h.points(0, 2, 0), value, 0);
    }

    private static void values() {
        gives("17", 17);
        gives("band", 2);
        gives("kind", 2);
        gives("zone", 7);
        gives("mine", 3);
        gives("far", 50);
        gives("+ 5 3", 8);
        gives("- 5 3", 2);
        gives("- 3 5", -2);
        gives("* 5 3", 15);
        gives("/ 7 2", 3);
        gives("/ - 0 7 2", -3);
        gives("/ 7 - 0 2", -3);
        gives("? 1 2 3", 2);
        gives("? 0 2 3", 3);
        gives("? - 0 1 2 3", 3);
        gives("? 1 2 / 1 0", 2);
        gives("? 0 / 1 0 3", 3);
        gives("- - 100 10 - 5 3", 88);
        gives("? ? 0 1 0 9 ? 1 8 7", 8);
        gives("* * 9999 9999 9999", 9999 * 9999 * 9999);
        gives("+ * * 9999 9999 21 * * 9999 9999 21", 2 * 9999 * 9999 * 21);
    }

    /** The least int divided by -1 is the least int again. */
    private static void leastInt() {
        gives("* * 4096 4096 128", Integer.MIN_VALUE);
        gives("/ * * 4096 4096 128 - 0 1", Integer.MIN_VALUE);
    }

    private static void dividedByZero() {
        for (String words : new String[] {
            "/ 1 0", "/ 0 0", "/ 1 - band band", "+ / 1 0 1", "* 0 / 1 0", "? / 1 0 1 1", "? 1 / 1 0 1", "? 0 1 / 1 0", "/ 1 / 1 2"}) {
            ContactHouse h = house();
            Due.rule(h, words);
            DUE.ask(h, "points by '" + words + "'", h.points(0, 2, 0), 0, 5);
            DUE.ask(h, "of a call that is no station's", h.points(0, 2, 2), 0, 0);
        }
    }

    private static void whose() {
        ContactHouse h = house();
        Due.rule(h, "+ * 1000 zone + * 100 kind far");
        DUE.ask(h, "another station's call", h.points(0, 2, 0), 7250, 0);
        DUE.ask(h, "one's own call", h.points(0, 2, 1), 3000, 0);
        DUE.ask(h, "no station's call", h.points(0, 2, 2), 0, 0);
        DUE.ask(h, "a rest", h.points(0, 2, 3), 0, 3);
        DUE.ask(h, "a remark", h.points(0, 2, 4), 0, 3);
        DUE.ask(h, "no such line", h.points(0, 2, 5), 0, 2);
        DUE.ask(h, "line -1", h.points(0, 2, -1), 0, 2);
        DUE.ask(h, "a missing log", h.points(0, 0, 0), 0, 1);
        DUE.ask(h, "no such band", h.points(0, 3, 0), 0, 6);
        DUE.ask(h, "no such station", h.points(2, 3, 0), 0, 4);
        Due.station(h, "C", 4, 9, 10, 20);
        DUE.ask(h, "a team's call", h.points(0, 2, 2), 9400, 0);
    }

    private static void distances() {
        int[][] squares = {{0, 0, 0}, {1, 0, 1}, {1, 1, 1}, {3, 4, 5}, {3, 3, 4}, {99, 99, 140}, {99, 0, 99}, {60, 80, 100}, {60, 79, 99}};
        for (int[] n : squares) {
            ContactHouse h = new ContactHouse();
            Due.station(h, "A", 0, 0, n[0], 0);
            Due.station(h, "B", 0, 0, 0, n[1]);
            Due.rule(h, "far");
            Due.log(h, 0, 0, "q 1 B");
            Due.log(h, 1, 0, "q 1 A");
            DUE.is("far of " + n[0] + ", " + n[1], h.points(0, 0, 0), n[2]);
            DUE.is("and back", h.points(1, 0, 0), n[2]);
        }
    }

    private static void refusedRuleStays() {
        ContactHouse h = house();
        Due.rule(h, "+ zone 1");
        DUE.is("refused", Due.rule(h, "+ 5 5 5"), -7);
        DUE.is("the rule stays", h.points(0, 2, 0), 8);
        DUE.is("refused", Due.rule(h, "- 5"), -4);
        DUE.is("the rule stays", h.points(0, 2, 0), 8);
        DUE.is("another", Due.rule(h, "mine"), 1);
        DUE.is("is the rule", h.points(0, 2, 0), 3);
        DUE.is("refused within others", Due.rule(h, "+ + + x"), -7);
        DUE.is("the next one is not within them", Due.rule(h, "+ 1 ".repeat(8) + "zone"), 17);
        DUE.is("and is the rule", h.points(0, 2, 0), 15);
    }

    public static void main(String[] args) {
        forms();
        limitOfWords();
        limitOfOperators();
        values();
        leastInt();
        dividedByZero();
        whose();
        distances();
        refusedRuleStays();
        DUE.end();
    }
}
