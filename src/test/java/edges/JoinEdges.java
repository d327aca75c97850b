/** Terms II and III, promises 9 to 13: what AGREES, ODDS and RISK, PERSONS and QUARRELS. */
final class JoinEdges {
    private static final int NONE = VoteRoll.NONE;

    private JoinEdges() {
    }

    static void look() {
        distance();
        agree();
        fields();
        mAndU();
        field();
        priorAndOdds();
        risk();
        terms();
        odds();
        oddsWithout();
        knownByThen();
        bound();
        greatestFirst();
        once();
        passedBy();
        named();
        person();
        joined();
    }

    /** How many FIELDS AGREE of two RECORDS that have a family's name alone. */
    private static long agreeing(String folds, String one, String other, int slack) {
        return agreeing(folds, one + ",", other + ",", slack, 4);
    }

    private static long agreeing(String folds, String one, String other, int slack, int what) {
        Desk desk = new Desk();
        desk.folds(folds);
        desk.tell(one, 6, NONE, NONE, 0);
        desk.tell(other, 6, NONE, NONE, 0);
        desk.roll.terms(slack, 1, 1, 1, 1, 0);
        return desk.roll.odds(0, 1, what);
    }

    private static void distance() {
        Edge.of("DISTANCE of two FOLDED names: the least number of letters put in, taken out, changed.");
        String[][] cases = {{"abc", "abc", "0"}, {"abc", "abxc", "1"}, {"abc", "ac", "1"}, {"abc", "axc", "1"},
            {"abc", "xabc", "1"}, {"abc", "abcx", "1"}, {"abc", "bc", "1"}, {"abc", "ab", "1"}, {"ab", "ba", "2"},
            {"abcd", "bcda", "2"}, {"abc", "abcxy", "2"}, {"abc", "c", "2"}, {"abc", "xyz", "3"}, {"a", "abcd", "3"},
            {"abcdefghijkl", "abcxefgyijkz", "3"}, {"abcdefghijkl", "defghijklxyz", "4"}, {"abc", "defg", "4"},
            {"a", "abcde", "4"}, {"abcdefghijkl", "mnopqrstuvwx", "12"}};
        for (String[] c : cases) {
            int far = Integer.parseInt(c[2]);
            for (int slack = 0; slack <= 3; slack++) {
                String what = c[0] + " and " + c[1] + " by SLACK " + slack;
                Edge.due(what, agreeing("", c[0], c[1], slack), far <= slack ? 1 : 0);
                Edge.due(what + " turned", agreeing("", c[1], c[0], slack), far <= slack ? 1 : 0);
                Edge.due(what + " as given ones", agreeing("", "," + c[0], "," + c[1], slack, 4), far <= slack ? 1 : 0);
                Edge.due(what + " differ if they don't AGREE", agreeing("", c[0] + ",", c[1] + ",", slack, 1),
                        far <= slack ? 1 : 9);
            }
        }
        Edge.due("FOLDED to the same", agreeing("ph>f", "phil", "fil", 0), 1);
        Edge.due("the same as told, FOLDED apart by one", agreeing("ab>x", "ab", "b", 0), 0);
        Edge.due("one apart as told, three FOLDED", agreeing("a>xyz", "ab", "b", 2), 0);
        Edge.due("one apart as told, three FOLDED", agreeing("a>xyz", "ab", "b", 3), 1);
        String twelve = "a".repeat(12);
        Edge.due("36 letters FOLDED, the same", agreeing("a>xyz", twelve, twelve, 0), 1);
        String last = "a".repeat(11) + "b";
        Edge.due("36 letters FOLDED, the last changed, by SLACK 0", agreeing("a>xyz,b>xyw", twelve, last, 0), 0);
        Edge.due("36 letters FOLDED, the last changed, by SLACK 1", agreeing("a>xyz,b>xyw", twelve, last, 1), 1);
        String first = "b" + "a".repeat(11);
        Edge.due("36 letters FOLDED, three put in ahead and taken out behind", agreeing("a>xyz,b>uvw", first, last, 3), 0);
        Edge.due("36 and 33 letters FOLDED, by SLACK 3", agreeing("a>xyz,b>", twelve, first, 3), 1);
        Edge.due("36 and 33 letters FOLDED, by SLACK 2", agreeing("a>xyz,b>", first, twelve, 2), 0);
    }

    private static void agree() {
        Edge.of("Two names AGREE, if both have letters (as told) and their DISTANCE is not above SLACK (0 .. 3; 0 at first);"
                + " they are unknown, if one has none.");
        Desk desk = new Desk();
        desk.tell("abc,", 6, NONE, NONE, 0);
        desk.tell("abd,", 6, NONE, NONE, 0);
        desk.tell("abc,", 6, NONE, NONE, 0);
        desk.tell(",", 6, NONE, NONE, 0);
        desk.tell(",", 6, NONE, NONE, 0);
        VoteRoll roll = desk.roll;
        Edge.due("SLACK 0 at first: one apart", roll.odds(0, 1, 4), 0);
        Edge.due("SLACK 0 at first: none apart", roll.odds(0, 2, 4), 1);
        Edge.due("they differ", roll.odds(0, 1, 1), 900);
        Edge.due("one has none: they do not AGREE", roll.odds(0, 3, 4), 0);
        Edge.due("nor do they differ", roll.odds(0, 3, 1), 100);
        Edge.due("both have none: they do not AGREE", roll.odds(3, 4, 4), 0);
        Edge.due("nor do they differ", roll.odds(3, 4, 1), 100);
        Edge.due("SLACK -1", roll.terms(-1, 1, 1, 1, 1, 0), -1);
        Edge.due("SLACK 4", roll.terms(4, 1, 1, 1, 1, 0), -1);
        Edge.due("SLACK 3", roll.terms(3, 1, 1, 1, 1, 0), 0);
        Edge.due("one has none, by SLACK 3 too", roll.odds(0, 3, 4), 0);
        Edge.due("SLACK 0", roll.terms(0, 1, 1, 1, 1, 0), 0);
        Edge.due("it is 0 again", roll.odds(0, 1, 4), 0);
        Edge.due("letters as told, none FOLDED", agreeing("e>", "e", "ee", 0), 1);
        Edge.due("none FOLDED and three letters, by SLACK 3", agreeing("e>", "e", "abc", 3), 1);
        Edge.due("none FOLDED and three letters, by SLACK 2", agreeing("e>", "e", "abc", 2), 0);
        Edge.due("none FOLDED and four letters", agreeing("e>", "e", "abcd", 3), 0);
        Edge.due("none as told and one letter, by SLACK 3", agreeing("e>", "", "a", 3), 0);
    }

    /** Two RECORDS that are the same, apart by one, or unknown in one FIELD, and unknown in all others. */
    private static VoteRoll twoByField(int field, int state) {
        Desk desk = new Desk();
        for (int i = 0; i < 2; i++) {
            int n = i == 0 || state == 0 ? 0 : state == 1 ? 1 : NONE;
            String name = n == NONE ? "" : n == 0 ? "a" : "b";
            desk.record((field == 0 ? name : "") + "," + (field == 1 ? name : ""), 0, 6, field == 2 ? n : NONE,
                    field == 3 ? n : NONE, field == 4 ? n : NONE, 0, 0);
        }
        return desk.roll;
    }

    private static void fields() {
        Edge.of("FIELDS 0 family's name, 1 given name, 2 BIRTH, 3 PLACE, 4 NUMBER: AGREE (2 .. 4: the same), differ,"
                + " or unknown (one is NONE).");
        for (int field = 0; field <= 4; field++) {
            // M 80, U 30 of this FIELD alone: 8 / 3 if it AGREES, 2 / 7 if it differs
            long[][] dues = {{1, 2, 75}, {0, 1, 350}, {0, 1, 100}};
            for (int state = 0; state <= 2; state++) {
                VoteRoll roll = twoByField(field, state);
                roll.field(field, 80, 30);
                String what = "FIELD " + field + " in state " + state;
                Edge.due(what + ": how many AGREE", roll.odds(0, 1, 4), dues[state][0]);
                Edge.due(what + ": upper", roll.odds(0, 1, 0), dues[state][1]);
                Edge.due(what + ": lower", roll.odds(0, 1, 1), dues[state][2]);
            }
        }
        Desk desk = new Desk();
        desk.record(",", 0, 6, 40000, 999, 9999, 0, 0);
        desk.record(",", 0, 6, 40000, 999, 9999, 0, 0);
        desk.record(",", 0, 6, 39999, 998, 9998, 0, 0);
        Edge.due("the greatest are the same", desk.roll.odds(0, 1, 4), 3);
        Edge.due("by one they are not, nor by SLACK", desk.roll.terms(3, 1, 1, 1, 1, 0) + desk.roll.odds(0, 2, 4), 0);
    }

    private static void mAndU() {
        Edge.of("Each FIELD has an M and a U (1 .. 99 hundredths; 90, 10 at first): how often it AGREES of one and the same"
                + " person, of two.");
        for (int field = 0; field <= 4; field++) {
            VoteRoll roll = twoByField(field, 0);
            Edge.due("90 / 10 at first, FIELD " + field, roll.odds(0, 1, 0), 9);
            Edge.due("of 100, FIELD " + field, roll.odds(0, 1, 1), 100);
            Edge.due("M 0, FIELD " + field, roll.field(field, 0, 10), -1);
            Edge.due("M 100, FIELD " + field, roll.field(field, 100, 10), -1);
            Edge.due("U 0, FIELD " + field, roll.field(field, 90, 0), -1);
            Edge.due("U 100, FIELD " + field, roll.field(field, 90, 100), -1);
            Edge.due("they are as they were", roll.odds(0, 1, 0), 9);
            Edge.due("M 99, U 1, FIELD " + field, roll.field(field, 99, 1), 0);
            Edge.due("99 / 1", roll.odds(0, 1, 0), 99);
            Edge.due("M 1, U 99, FIELD " + field, roll.field(field, 1, 99), 0);
            Edge.due("1 / 99", roll.odds(0, 1, 1), 9900);
        }
    }

    private static void field() {
        Edge.of("M, U of a FIELD: 0; -1.");
        VoteRoll roll = new VoteRoll();
        Edge.due("FIELD -1", roll.field(-1, 50, 50), -1);
        Edge.due("FIELD 0", roll.field(0, 50, 50), 0);
        Edge.due("FIELD 4", roll.field(4, 50, 50), 0);
        Edge.due("FIELD 5", roll.field(5, 50, 50), -1);
        Edge.due("FIELD least", roll.field(Edge.LEAST, 50, 50), -1);
        Edge.due("FIELD greatest", roll.field(Edge.GREATEST, 50, 50), -1);
        Edge.due("M least", roll.field(0, Edge.LEAST, 50), -1);
        Edge.due("M greatest", roll.field(0, Edge.GREATEST, 50), -1);
        Edge.due("U least", roll.field(0, 50, Edge.LEAST), -1);
        Edge.due("U greatest", roll.field(0, 50, Edge.GREATEST), -1);
        Edge.due("status()", roll.status(), -1);
    }

    private static Desk bareTwo() {
        Desk desk = new Desk();
        desk.fill(2);
        return desk;
    }

    private static void priorAndOdds() {
        Edge.of("ODDS of two RECORDS that they are one person's: PRIOR (a to b, 1 .. 1000 each; 1 to 100 at first) times M / U"
                + " for each FIELD that AGREES, (100 - M) / (100 - U) for each that differs.");
        VoteRoll roll = bareTwo().roll;
        Edge.due("1 at first", roll.odds(0, 1, 0), 1);
        Edge.due("to 100 at first", roll.odds(0, 1, 1), 100);
        Edge.due("a 0", roll.terms(0, 0, 1, 1, 1, 0), -1);
        Edge.due("a 1001", roll.terms(0, 1001, 1, 1, 1, 0), -1);
        Edge.due("b 0", roll.terms(0, 1, 0, 1, 1, 0), -1);
        Edge.due("b 1001", roll.terms(0, 1, 1001, 1, 1, 0), -1);
        Edge.due("it is as it was", roll.odds(0, 1, 1), 100);
        Edge.due("a 1000, b 1", roll.terms(0, 1000, 1, 1, 1, 0), 0);
        Edge.due("1000 to 1", roll.odds(0, 1, 0), 1000);
        Edge.due("a 1, b 1000", roll.terms(0, 1, 1000, 1, 1, 0), 0);
        Edge.due("1 to 1000", roll.odds(0, 1, 1), 1000);
        Desk all = new Desk();
        all.record("a,b", 0, 6, 1, 2, 3, 0, 0);
        all.record("a,b", 0, 6, 1, 2, 3, 0, 0);
        all.record("c,d", 0, 6, 4, 5, 6, 0, 0);
        for (int f = 0; f < 5; f++) {
            all.roll.field(f, 99, 1);
        }
        all.roll.terms(0, 1000, 1, 1, 1, 0);
        Edge.due("all five AGREE: 1000 times 99 five times", all.roll.odds(0, 1, 0), 9509900499000L);
        Edge.due("to 1", all.roll.odds(0, 1, 1), 1);
        all.roll.terms(0, 1, 1000, 1, 1, 0);
        Edge.due("all five differ: 1", all.roll.odds(0, 2, 0), 1);
        Edge.due("to 1000 times 99 five times", all.roll.odds(0, 2, 1), 9509900499000L);
        all.roll.terms(0, 997, 991, 1, 1, 0);
        for (int f = 0; f < 5; f++) {
            all.roll.field(f, 97, 89);
        }
        Edge.due("numbers without a common divisor: upper", all.roll.odds(0, 1, 0), 997L * 97 * 97 * 97 * 97 * 97);
        Edge.due("numbers without a common divisor: lower", all.roll.odds(0, 1, 1), 991L * 89 * 89 * 89 * 89 * 89);
    }

    private static void risk() {
        Edge.of("RISK of their join: the chance that they are two persons', by these ODDS.");
        VoteRoll roll = bareTwo().roll;
        int[][] cases = {{1, 1, 1, 2}, {2, 1, 1, 3}, {1, 2, 2, 3}, {1000, 1, 1, 1001}, {1, 1000, 1000, 1001},
            {1000, 1000, 1, 2}, {6, 4, 2, 5}, {999, 1000, 1000, 1999}};
        for (int[] c : cases) {
            roll.terms(0, c[0], c[1], 1, 1, 0);
            Edge.due(c[0] + " to " + c[1] + ": upper", roll.odds(0, 1, 2), c[2]);
            Edge.due(c[0] + " to " + c[1] + ": lower", roll.odds(0, 1, 3), c[3]);
        }
    }

    private static void terms() {
        Edge.of("SLACK, PRIOR, BOUND, ONCE: 0; -1.");
        VoteRoll roll = bareTwo().roll;
        int[] least = {0, 1, 1, 1, 1, 0};
        int[] greatest = {3, 1000, 1000, 1000, 1000, 255};
        for (int which = 0; which < 6; which++) {
            for (int[] right : new int[][] {least, greatest}) {
                int[] t = right.clone();
                Edge.due("the " + which + "th within", roll.terms(t[0], t[1], t[2], t[3], t[4], t[5]), 0);
                for (int number : new int[] {least[which] - 1, greatest[which] + 1, Edge.LEAST, Edge.GREATEST}) {
                    t[which] = number;
                    Edge.due("the " + which + "th " + number, roll.terms(t[0], t[1], t[2], t[3], t[4], t[5]), -1);
                }
            }
        }
        roll.terms(0, 7, 3, 1, 1, 0);
        roll.terms(0, 5, 11, 1, 1, 256);
        Edge.due("what is refused changes nothing: upper", roll.odds(0, 1, 0), 7);
        Edge.due("what is refused changes nothing: lower", roll.odds(0, 1, 1), 3);
        Edge.due("status()", roll.status(), -1);
        roll.terms(0, 5, 11, 1, 1, 0);
        Edge.due("status() then", roll.status(), 0);
    }

    private static void odds() {
        Edge.of("ODDS of two RECORDS in lowest terms: upper (what 0), lower (1) number; RISK: upper (2), lower (3);"
                + " how many FIELDS AGREE (4).");
        VoteRoll roll = bareTwo().roll;
        roll.terms(0, 600, 900, 1, 1, 0);
        int[] dues = {2, 3, 3, 5, 0};
        for (int what = 0; what <= 4; what++) {
            Edge.due("what " + what, roll.odds(0, 1, what), dues[what]);
            Edge.due("what " + what + " turned", roll.odds(1, 0, what), dues[what]);
        }
        roll.terms(0, 1000, 1000, 1, 1, 0);
        Edge.due("alike: upper", roll.odds(0, 1, 0), 1);
        Edge.due("alike: lower", roll.odds(0, 1, 1), 1);
        for (int what : new int[] {-1, 5, Edge.LEAST, Edge.GREATEST}) {
            Edge.due("what " + what, roll.odds(0, 1, what), NONE);
        }
        Desk five = new Desk();
        five.record("a,b", 0, 6, 0, 0, 0, 0, 0);
        five.record("a,b", 7, 2, 0, 0, 0, 9, 9);
        Edge.due("all five AGREE", five.roll.odds(0, 1, 4), 5);
        Desk last = new Desk();
        last.fill(118);
        last.record("a,b", 0, 6, 0, 0, 0, 0, 0);
        last.record("a,b", 0, 6, 0, 0, 1, 0, 0);
        Edge.due("of the last two of 120", last.roll.odds(118, 119, 4), 4);
        Edge.due("of the first and the last of 120", last.roll.odds(0, 119, 4), 0);
    }

    private static void oddsWithout() {
        Edge.of("NONE without them (and of one with itself).");
        VoteRoll roll = bareTwo().roll;
        for (int what = 0; what <= 4; what++) {
            Edge.due("one with itself, what " + what, roll.odds(1, 1, what), NONE);
            Edge.due("behind the last, what " + what, roll.odds(0, 2, what), NONE);
            Edge.due("behind the last ahead, what " + what, roll.odds(2, 0, what), NONE);
            Edge.due("-1, what " + what, roll.odds(-1, 0, what), NONE);
            Edge.due("-1 behind, what " + what, roll.odds(0, -1, what), NONE);
            Edge.due("two that are none, what " + what, roll.odds(Edge.LEAST, Edge.GREATEST, what), NONE);
        }
        Edge.due("the two that are", roll.odds(0, 1, 0), 1);
        Edge.due("a new object", new VoteRoll().odds(0, 1, 0), NONE);
        Desk later = new Desk();
        later.record(",", 0, 6, NONE, NONE, NONE, 40000, 40000);
        later.record(",", 0, 6, NONE, NONE, NONE, 40000, 40000);
        Edge.due("two that are known late have them too", later.roll.odds(0, 1, 1), 100);
    }

    private static void knownByThen() {
        Edge.of("PERSONS as known on a DAY k: RECORDS known by then;");
        Desk desk = new Desk();
        desk.roll.terms(0, 1, 1, 1, 1, 0);
        desk.record("a,", 0, 6, NONE, NONE, NONE, 0, 20);
        desk.record("a,", 0, 6, NONE, NONE, NONE, 0, 10);
        Edge.due("PERSONS ahead of both", desk.roll.joined(9, 0), 0);
        Edge.due("one on its DAY", desk.roll.person(1, 10), 1);
        Edge.due("the other not yet", desk.roll.person(0, 19), NONE);
        Edge.due("one alone", desk.roll.person(1, 19), 1);
        Edge.due("both on the other's DAY", desk.roll.person(1, 20), 0);
        Edge.due("PERSONS then", desk.roll.joined(20, 0), 1);
        Edge.due("and ahead again", desk.roll.person(1, 19), 1);
    }

    private static int joinedBy(int a, int b, int x, int y) {
        VoteRoll roll = bareTwo().roll;
        roll.terms(0, a, b, x, y, 0);
        return roll.joined(0, 0);
    }

    private static void bound() {
        Edge.of("all pairs whose ODDS are at least BOUND (x to y, 1 .. 1000 each; 1 to 1 at first),");
        Edge.due("ODDS just BOUND", joinedBy(1, 1, 1, 1), 1);
        Edge.due("ODDS just BOUND in other terms", joinedBy(2, 3, 600, 900), 1);
        Edge.due("ODDS just above BOUND", joinedBy(1000, 999, 1, 1), 1);
        Edge.due("ODDS just below BOUND", joinedBy(999, 1000, 1, 1), 2);
        Desk five = new Desk();
        five.record("a,b", 0, 6, 1, 2, 3, 0, 0);
        five.record("a,b", 0, 6, 1, 2, 3, 0, 0);
        five.roll.terms(0, 1, 1, 1, 1, 0);
        Edge.due("all FIELDS AGREE, above BOUND", five.roll.joined(0, 0), 1);
        five.roll.field(0, 1, 99);
        five.roll.field(1, 1, 99);
        five.roll.field(2, 1, 99);
        Edge.due("all FIELDS AGREE, below BOUND", five.roll.joined(0, 0), 2);
        Edge.due("by the least difference above", joinedBy(999, 998, 1000, 999), 1);
        Edge.due("by the least difference below", joinedBy(1000, 999, 999, 998), 2);
        Edge.due("the greatest BOUND just reached", joinedBy(1000, 1, 1000, 1), 1);
        Edge.due("the greatest BOUND not reached", joinedBy(999, 1, 1000, 1), 2);
        Edge.due("the least BOUND just reached", joinedBy(1, 1000, 1, 1000), 1);
        Edge.due("the least BOUND of a y less is not", joinedBy(1, 1000, 1, 999), 2);
        // at first 1 to 1, by PRIOR 1 to 100: M / U of 100 reach it, of 99 do not
        Desk desk = new Desk();
        desk.tell("a,b", 6, NONE, NONE, 0);
        desk.tell("a,b", 6, NONE, NONE, 0);
        desk.roll.field(0, 10, 1);
        desk.roll.field(1, 10, 1);
        Edge.due("1 to 1 at first: reached", desk.roll.joined(0, 0), 1);
        desk.roll.field(0, 99, 1);
        desk.roll.field(1, 1, 1);
        Edge.due("1 to 1 at first: not reached", desk.roll.joined(0, 0), 2);
        VoteRoll roll = bareTwo().roll;
        for (int number : new int[] {0, 1001}) {
            Edge.due("x " + number, roll.terms(0, 1, 1, number, 1, 0), -1);
            Edge.due("y " + number, roll.terms(0, 1, 1, 1, number, 0), -1);
        }
        // 0 and 1 AGREE by the family's name, 0 and 2 by the given one; these ODDS fall below BOUND later
        Desk fallen = new Desk();
        fallen.roll.terms(0, 1, 1, 1000, 999, 0);
        fallen.roll.field(1, 50, 10);
        fallen.tell("a,b", 6, NONE, NONE, 0);
        fallen.tell("a,", 6, NONE, NONE, 0);
        fallen.tell(",b", 6, NONE, NONE, 0);
        Edge.due("both reach it", fallen.roll.joined(0, 0), 1);
        fallen.roll.field(0, 20, 10);
        fallen.roll.field(1, 1, 10);
        Edge.due("one reaches it no more", fallen.roll.joined(0, 0), 2);
        Edge.due("the one that does", fallen.roll.person(1, 0), 0);
        Edge.due("the one that does not", fallen.roll.person(2, 0), 2);
        // five FIELDS that AGREE by 99 to 1 and BOUND 1000 to 1: the products stay exact
        Desk far = new Desk();
        far.record("a,b", 0, 6, 1, 2, 3, 0, 0);
        far.record("c,d", 0, 6, 4, 5, 6, 0, 0);
        for (int f = 0; f < 5; f++) {
            far.roll.field(f, 99, 1);
        }
        far.roll.terms(0, 1, 1000, 1000, 1, 0);
        Edge.due("the least ODDS, the greatest BOUND", far.roll.joined(0, 0), 2);
        for (int f = 0; f < 5; f++) {
            far.roll.field(f, 1, 99);
        }
        far.roll.terms(0, 1000, 1, 1, 1000, 0);
        Edge.due("the greatest ODDS, the least BOUND", far.roll.joined(0, 0), 1);
    }

    /** RECORD 2 is like 0 by the family's name, like 1 by the given one; 0 and 1 are of a LIST that names each ONCE. */
    private static int whoIsNearer(int familyM, int familyU, int givenM, int givenU) {
        Desk desk = new Desk();
        desk.roll.terms(0, 1, 1, 1, 1, 1);
        desk.roll.field(0, familyM, familyU);
        desk.roll.field(1, givenM, givenU);
        desk.record("a,", 0, 6, NONE, NONE, NONE, 0, 0);
        desk.record(",b", 0, 6, NONE, NONE, NONE, 0, 0);
        desk.record("a,b", 1, 6, NONE, NONE, NONE, 0, 0);
        return desk.roll.person(2, 0);
    }

    /**
     * RECORDS 0 to 4 have one FIELD each, RECORD 5 has them all. Two of the five at a time are of a LIST that names
     * each ONCE: the one with the greater ODDS is with RECORD 5, the other one is not. By every row of five M and U.
     */
    private static void orderOfFive(int a, int b, int[][] mu) {
        for (int turn = 0; turn < 120; turn++) {
            int[][] row = rowOf(mu, turn);
            int one = turn % 5;
            int other = (one + 1 + turn / 5 % 4) % 5;
            Desk desk = new Desk();
            desk.roll.terms(0, a, b, 1000, 999, 1);
            for (int f = 0; f < 5; f++) {
                desk.roll.field(f, row[f][0], row[f][1]);
            }
            for (int i = 0; i <= 5; i++) {
                int list = i == one || i == other ? 0 : 1;
                desk.record((i % 5 == 0 ? "a" : "") + "," + (i == 1 || i == 5 ? "b" : ""), list, 6, i == 2 || i == 5 ? 7 : NONE,
                        i == 3 || i == 5 ? 8 : NONE, i == 4 || i == 5 ? 9 : NONE, 0, 0);
            }
            boolean oneFirst = row[one][0] * row[other][1] > row[other][0] * row[one][1];
            int ofAll = desk.roll.person(5, 0);
            Edge.due("row " + turn + ": one is with it", desk.roll.person(one, 0) == ofAll ? 1 : 0, oneFirst ? 1 : 0);
            Edge.due("row " + turn + ": the other is with it", desk.roll.person(other, 0) == ofAll ? 1 : 0, oneFirst ? 0 : 1);
            Edge.due("row " + turn + ": PERSONS", desk.roll.joined(0, 0), 2);
            Edge.due("row " + turn + ": QUARRELS", desk.roll.joined(0, 1), 1);
        }
    }

    /** The five in the order of that number, of 120. */
    private static int[][] rowOf(int[][] five, int number) {
        java.util.List<int[]> left = new java.util.ArrayList<>(java.util.Arrays.asList(five));
        int[][] row = new int[5][];
        int rest = number;
        for (int i = 0; i < 5; i++) {
            row[i] = left.remove(rest % (5 - i));
            rest /= 5 - i;
        }
        return row;
    }

    /** 100 RECORDS whose pairs AGREE, differ and are unknown in all 243 ways, each with ODDS of its own. */
    private static void allKinds() {
        VoteRoll roll = new VoteRoll();
        Model model = new Model();
        int[] m = {52, 53, 55, 58, 61};
        for (int f = 0; f < 5; f++) {
            roll.field(f, m[f], 50);
            model.field(f, m[f], 50);
        }
        java.util.Random random = new java.util.Random(7);
        java.util.Set<String> kinds = new java.util.TreeSet<>();
        for (int i = 0; i < 100; i++) {
            int[] n = new int[5];
            for (int f = 0; f < 5; f++) {
                n[f] = random.nextInt(5) == 0 ? NONE : random.nextInt(2);
            }
            int[] text = {letter(n[0]) << 24 | ',' << 16 | letter(n[1]) << 8 | ' ', 0x20202020, 0x20202020, 0x20202020, 0x20202020};
            roll.feed(text[0], text[1], text[2], text[3], text[4]);
            model.feed(text);
            roll.record(i % 8, 6, n[2], n[3], n[4], 0, 0);
            model.record(i % 8, 6, n[2], n[3], n[4], 0, 0);
            for (int j = 0; j < i; j++) {
                StringBuilder kind = new StringBuilder();
                for (int f = 0; f < 5; f++) {
                    kind.append(model.state(model.records.get(i), model.records.get(j), f)).append(' ');
                }
                kinds.add(kind.toString());
            }
        }
        Edge.due("ways in which two RECORDS are alike", kinds.size(), 243);
        for (int once : new int[] {255, 15, 0}) {
            roll.terms(0, 1000, 1, 1, 1000, once);
            model.terms(0, 1000, 1, 1, 1000, once);
            Edge.due("PERSONS by ONCE " + once, roll.joined(0, 0), model.joined(0, 0));
            Edge.due("QUARRELS by ONCE " + once, roll.joined(0, 1), model.joined(0, 1));
        }
        roll.terms(0, 1000, 1, 1, 1000, 129);
        model.terms(0, 1000, 1, 1, 1000, 129);
        java.util.Map<Integer, java.util.TreeSet<Integer>> persons = model.persons(0);
        for (java.util.Map.Entry<Integer, java.util.TreeSet<Integer>> p : persons.entrySet()) {
            for (int record : p.getValue()) {
                Edge.due("PERSON of " + record, roll.person(record, 0), p.getKey());
            }
        }
    }

    private static int letter(int n) {
        return n == NONE ? ' ' : 'a' + n;
    }

    /** Four RECORDS alike; those of LIST 0 are told by ones. */
    private static String alikes(int... lists) {
        Desk desk = new Desk();
        desk.roll.terms(0, 1, 1, 1, 1, 1);
        StringBuilder text = new StringBuilder();
        for (int list : lists) {
            desk.record("a,", list, 6, NONE, NONE, NONE, 0, 0);
        }
        for (int i = 0; i < lists.length; i++) {
            text.append(desk.roll.person(i, 0));
        }
        return text.toString();
    }

    private static void greatestFirst() {
        Edge.of("the greatest ODDS first, of alike ones the lower first RECORD, then the lower other one:");
        Edge.due("2 / 1 and 3 / 1", whoIsNearer(2, 1, 3, 1), 1);
        Edge.due("3 / 1 and 2 / 1", whoIsNearer(3, 1, 2, 1), 0);
        Edge.due("97 / 96 and 98 / 97", whoIsNearer(97, 96, 98, 97), 0);
        Edge.due("98 / 97 and 97 / 96", whoIsNearer(98, 97, 97, 96), 1);
        Edge.due("alike: the lower first RECORD", whoIsNearer(2, 1, 2, 1), 0);
        Edge.due("alike in other terms: the lower first RECORD", whoIsNearer(98, 49, 2, 1), 0);
        Edge.due("alike in other terms, turned", whoIsNearer(2, 1, 98, 49), 0);
        orderOfFive(1, 2, new int[][] {{90, 10}, {90, 12}, {90, 15}, {90, 20}, {90, 30}});
        orderOfFive(1, 1, new int[][] {{93, 92}, {94, 93}, {95, 94}, {96, 95}, {97, 96}});
        orderOfFive(1, 1, new int[][] {{98, 49}, {95, 38}, {70, 30}, {90, 40}, {96, 40}});
        allKinds();
        Edge.due("alike: the lower other one", alikes(1, 0, 0, 1), "0020");
        Edge.due("alike: the lower first one", alikes(0, 0, 1, 1), "0100");
        Edge.due("none in common", alikes(1, 2, 3, 4), "0000");
        Edge.due("all in common", alikes(0, 0, 0, 0), "0123");
    }

    /** Two RECORDS alike, of LISTS, by ONCE: PERSONS and QUARRELS. */
    private static String onceOf(int list, int otherList, int once) {
        Desk desk = new Desk();
        desk.roll.terms(0, 1, 1, 1, 1, once);
        desk.record("a,", list, 6, NONE, NONE, NONE, 0, 0);
        desk.record("a,", otherList, 6, NONE, NONE, NONE, 0, 0);
        return desk.roll.joined(0, 0) + " " + desk.roll.joined(0, 1);
    }

    private static void once() {
        Edge.of("each is joined, unless both PERSONS (as joined so far) have RECORDS of a LIST in common that names each ONCE"
                + " (LISTS by bits; none at first): then it is a QUARREL;");
        for (int list = 0; list <= 7; list++) {
            Edge.due("LIST " + list + " by its bit", onceOf(list, list, 1 << list), "2 1");
            Edge.due("LIST " + list + " by all other bits", onceOf(list, list, 255 - (1 << list)), "1 0");
            Edge.due("LIST " + list + " and the next by all bits", onceOf(list, (list + 1) % 8, 255), "1 0");
        }
        Edge.due("no bits", onceOf(7, 7, 0), "1 0");
        VoteRoll fresh = new VoteRoll();
        Desk desk = new Desk();
        desk.tell("a,b", 6, NONE, NONE, 0);
        desk.tell("a,b", 6, NONE, NONE, 0);
        desk.roll.field(0, 10, 1);
        desk.roll.field(1, 10, 1);
        Edge.due("none at first: PERSONS", desk.roll.joined(0, 0), 1);
        Edge.due("none at first: QUARRELS", desk.roll.joined(0, 1), 0);
        Edge.due("256", fresh.terms(0, 1, 1, 1, 1, 256), -1);
        Edge.due("255", fresh.terms(0, 1, 1, 1, 1, 255), 0);
        Edge.due("-1", fresh.terms(0, 1, 1, 1, 1, -1), -1);
        // 0 and 1 are joined first (two FIELDS), so that 2 meets LIST 3 through 1, though 0 is of none in common
        Desk through = new Desk();
        through.roll.terms(0, 1, 1, 1, 1, 8);
        through.record("a,b", 1, 6, NONE, NONE, NONE, 0, 0);
        through.record("a,b", 3, 6, NONE, NONE, NONE, 0, 0);
        through.record("a,", 3, 6, NONE, NONE, NONE, 0, 0);
        Edge.due("as joined so far: PERSON of 2", through.roll.person(2, 0), 2);
        Edge.due("as joined so far: QUARRELS", through.roll.joined(0, 1), 2);
        through.roll.terms(0, 1, 1, 1, 1, 2);
        Edge.due("by another LIST: PERSON of 2", through.roll.person(2, 0), 0);
        Edge.due("by another LIST: QUARRELS", through.roll.joined(0, 1), 0);
    }

    private static void passedBy() {
        Edge.of("pairs that are of one PERSON already are passed by.");
        // three alike of LISTS 0, 1, 2 that name each ONCE: the third pair is of one PERSON and no QUARREL
        Desk desk = new Desk();
        desk.roll.terms(0, 1, 1, 1, 1, 7);
        for (int list = 0; list < 3; list++) {
            desk.record("a,", list, 6, NONE, NONE, NONE, 0, 0);
        }
        Edge.due("PERSONS", desk.roll.joined(0, 0), 1);
        Edge.due("QUARRELS", desk.roll.joined(0, 1), 0);
        desk.record("a,", 0, 6, NONE, NONE, NONE, 0, 0);
        Edge.due("PERSONS with one more of LIST 0", desk.roll.joined(0, 0), 2);
        Edge.due("QUARRELS with one more of LIST 0", desk.roll.joined(0, 1), 3);
    }

    private static void named() {
        Edge.of("A PERSON is named by its lowest RECORD.");
        Desk desk = new Desk();
        desk.roll.terms(0, 1, 2, 1, 1, 0);
        desk.record("x,", 0, 6, NONE, NONE, NONE, 0, 0);
        desk.record("a,", 0, 6, NONE, NONE, NONE, 0, 0);
        desk.record(",", 0, 6, NONE, NONE, 5, 0, 0);
        desk.record("a,", 0, 6, NONE, NONE, 5, 0, 0);
        Edge.due("joined by the highest: the lowest", desk.roll.person(1, 0), 1);
        Edge.due("joined by the highest: the next", desk.roll.person(2, 0), 1);
        Edge.due("joined by the highest: itself", desk.roll.person(3, 0), 1);
        Edge.due("another one", desk.roll.person(0, 0), 0);
        Edge.due("PERSONS", desk.roll.joined(0, 0), 2);
    }

    private static void person() {
        Edge.of("PERSON of a RECORD as known on a DAY; NONE.");
        Desk desk = new Desk();
        Edge.due("no RECORD at all", desk.roll.person(0, 0), NONE);
        desk.record("a,", 0, 6, NONE, NONE, NONE, 0, 5);
        Edge.due("known", desk.roll.person(0, 5), 0);
        Edge.due("known on the last DAY", desk.roll.person(0, 40000), 0);
        Edge.due("not known", desk.roll.person(0, 4), NONE);
        Edge.due("behind the last RECORD", desk.roll.person(1, 5), NONE);
        Edge.due("-1", desk.roll.person(-1, 5), NONE);
        Edge.due("the greatest", desk.roll.person(Edge.GREATEST, 5), NONE);
        Edge.due("the least", desk.roll.person(Edge.LEAST, 5), NONE);
        Edge.due("DAY 40001", desk.roll.person(0, 40001), NONE);
        Edge.due("DAY -1", desk.roll.person(0, -1), NONE);
        Desk full = new Desk();
        full.fill(119);
        full.record("a,", 0, 6, NONE, NONE, NONE, 0, 40000);
        Edge.due("the last of 120", full.roll.person(119, 40000), 119);
        Edge.due("the last of 120 a DAY ahead", full.roll.person(119, 39999), NONE);
        full.roll.terms(0, 1, 1, 1, 1, 0);
        Edge.due("all 120 joined", full.roll.person(119, 40000), 0);
    }

    private static void joined() {
        Edge.of("0 PERSONS, 1 QUARRELS as known on a DAY. NONE.");
        Desk desk = new Desk();
        Edge.due("no RECORDS: PERSONS", desk.roll.joined(0, 0), 0);
        Edge.due("no RECORDS: QUARRELS", desk.roll.joined(0, 1), 0);
        desk.fill(120);
        Edge.due("120 PERSONS", desk.roll.joined(0, 0), 120);
        desk.roll.terms(0, 1, 1, 1, 1, 1);
        Edge.due("all pairs of 120 QUARREL", desk.roll.joined(0, 1), 7140);
        Edge.due("120 PERSONS still", desk.roll.joined(0, 0), 120);
        desk.roll.terms(0, 1, 1, 1, 1, 0);
        Edge.due("one PERSON", desk.roll.joined(0, 0), 1);
        Edge.due("no QUARREL", desk.roll.joined(0, 1), 0);
        for (int what : new int[] {-1, 2, Edge.LEAST, Edge.GREATEST}) {
            Edge.due("what " + what, desk.roll.joined(0, what), NONE);
        }
        Edge.due("DAY -1", desk.roll.joined(-1, 0), NONE);
        Edge.due("DAY 40001", desk.roll.joined(40001, 0), NONE);
        Edge.due("DAY 40000", desk.roll.joined(40000, 0), 1);
    }
}
