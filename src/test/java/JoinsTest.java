/** Promises 9 to 13: M and U, the terms, ODDS and RISK, PERSONS and QUARRELS. */
public final class JoinsTest {
    public static void main(String[] args) {
        fieldsAndTerms();
        odds();
        distances();
        extremes();
        persons();
        order();
        quarrels();
        firstBound();
        closeOdds();
        Desk.finish();
    }

    private static Desk pair() {
        Desk desk = new Desk();
        desk.record("ab,cd", 0, 0, 10, 20, 30, 5, 5);
        desk.record("ab,ce", 1, 0, 10, 21, -1, 6, 7);
        return desk;
    }

    private static void fieldsAndTerms() {
        Desk desk = pair();
        VoteRoll roll = desk.roll;
        int[][] wrongFields = {{-1, 1, 1}, {5, 1, 1}, {0, 0, 1}, {0, 100, 1}, {0, 1, 0}, {0, 1, 100}};
        for (int[] w : wrongFields) {
            Desk.due("9: field(" + java.util.Arrays.toString(w) + ")", roll.field(w[0], w[1], w[2]), -1);
        }
        Desk.due("9: status()", roll.status(), -1);
        Desk.due("9: least and most", roll.field(4, 1, 99), 0);
        Desk.due("9: status()", roll.status(), 0);
        int[][] wrongTerms = {{-1, 1, 1, 1, 1, 0}, {4, 1, 1, 1, 1, 0}, {0, 0, 1, 1, 1, 0}, {0, 1001, 1, 1, 1, 0},
            {0, 1, 0, 1, 1, 0}, {0, 1, 1001, 1, 1, 0}, {0, 1, 1, 0, 1, 0}, {0, 1, 1, 1001, 1, 0}, {0, 1, 1, 1, 0, 0},
            {0, 1, 1, 1, 1001, 0}, {0, 1, 1, 1, 1, -1}, {0, 1, 1, 1, 1, 256}};
        for (int[] w : wrongTerms) {
            Desk.due("10: terms(" + java.util.Arrays.toString(w) + ")",
                    roll.terms(w[0], w[1], w[2], w[3], w[4], w[5]), -1);
        }
        Desk.due("10: status()", roll.status(), -1);
        Desk.due("10: what was refused changed nothing", roll.odds(0, 1, 1), 100);
        Desk.due("10: greatest", roll.terms(3, 1000, 1000, 1000, 1000, 255), 0);
        Desk.due("10: status()", roll.status(), 0);
    }

    private static void odds() {
        VoteRoll roll = pair().roll;
        // names: AGREE, differ; BIRTH AGREE; PLACE differ; NUMBER unknown: 81 / 81 / 100
        Desk.due("11: upper", roll.odds(0, 1, 0), 1);
        Desk.due("11: lower", roll.odds(0, 1, 1), 100);
        Desk.due("11: RISK's upper", roll.odds(0, 1, 2), 100);
        Desk.due("11: RISK's lower", roll.odds(0, 1, 3), 101);
        Desk.due("11: how many AGREE", roll.odds(0, 1, 4), 2);
        Desk.due("11: the other way round", roll.odds(1, 0, 1), 100);
        roll.field(0, 60, 40);
        roll.field(3, 99, 98);
        // 1/100 * 3/2 * 1/9 * 9 * 1/2
        Desk.due("9: other M, U: upper", roll.odds(0, 1, 0), 3);
        Desk.due("9: other M, U: lower", roll.odds(0, 1, 1), 400);
        roll.terms(1, 7, 3, 1, 1, 0);
        // 7/3 * 3/2 * 9 * 9 * 1/2
        Desk.due("10: PRIOR and SLACK: upper", roll.odds(0, 1, 0), 567);
        Desk.due("10: PRIOR and SLACK: lower", roll.odds(0, 1, 1), 4);
        Desk.due("11: how many AGREE by SLACK", roll.odds(0, 1, 4), 3);
        Desk.due("11: RISK's upper", roll.odds(0, 1, 2), 4);
        Desk.due("11: RISK's lower", roll.odds(0, 1, 3), 571);
        Desk.due("11: with itself", roll.odds(1, 1, 0), -1);
        Desk.due("11: no such RECORD", roll.odds(0, 2, 0), -1);
        Desk.due("11: no such RECORD", roll.odds(-1, 0, 0), -1);
        Desk.due("11: no such what", roll.odds(0, 1, 5), -1);
        Desk.due("11: no such what", roll.odds(0, 1, -1), -1);
    }

    private static int agreeing(String a, String b, int slack, String folds) {
        Desk desk = new Desk();
        desk.folds(folds);
        desk.tell(a + ",", 6, -1, -1, 0);
        desk.tell(b + ",", 6, -1, -1, 0);
        desk.roll.terms(slack, 1, 1, 1, 1, 0);
        return (int) desk.roll.odds(0, 1, 4);
    }

    private static void distances() {
        String[][] cases = {{"kitten", "sitting", "3"}, {"abcdef", "abdef", "1"}, {"abcd", "abdc", "2"},
            {"abc", "xyz", "3"}, {"abcd", "wxyz", "4"}, {"abc", "abcdef", "3"}, {"a", "abcde", "4"},
            {"aaaaaaaaaaaa", "aaaaaaaaaaaa", "0"}, {"abcdefghijkl", "bcdefghijklm", "2"},
            {"abcdefghijkl", "defghijklxyz", "4"}, {"xabc", "abcx", "2"}, {"abcdabcd", "dabcdabc", "2"},
            {"abcdefgh", "efghabcd", "4"}, {"aabb", "bbaa", "4"}, {"abab", "baba", "2"}};
        for (String[] c : cases) {
            int far = Integer.parseInt(c[2]);
            for (int slack = 0; slack <= 3; slack++) {
                Desk.due("11: " + c[0] + " and " + c[1] + " by slack " + slack, agreeing(c[0], c[1], slack, ""),
                        far <= slack ? 1 : 0);
                Desk.due("11: " + c[1] + " and " + c[0] + " by slack " + slack, agreeing(c[1], c[0], slack, ""),
                        far <= slack ? 1 : 0);
            }
        }
        Desk.due("11: FOLDED names are held together", agreeing("philipp", "filip", 0, "ph>f,pp>p"), 1);
        Desk.due("11: names that fold to nothing AGREE", agreeing("e", "ee", 0, "e>"), 1);
        Desk.due("11: and are far from others", agreeing("e", "abcd", 3, "e>"), 0);
        Desk.due("11: long folded rows", agreeing("aaaaaaaaaaaa", "aaaaaaaaaaab", 2, "a>xyz,b>xy"), 1);
        Desk.due("11: by one too far", agreeing("aaaaaaaaaaaa", "aaaaaaaaaaab", 0, "a>xyz,b>xy"), 0);
        Desk desk = new Desk();
        desk.tell(",", 6, -1, -1, 0);
        desk.tell("a,", 6, -1, -1, 0);
        Desk.due("11: unknown FIELDS alone: PRIOR", desk.roll.odds(0, 1, 1), 100);
    }

    private static void extremes() {
        Desk desk = new Desk();
        desk.record("a,b", 0, 0, 1, 2, 3, 0, 0);
        desk.record("a,b", 1, 0, 1, 2, 3, 0, 0);
        desk.record("x,y", 2, 0, 7, 8, 9, 0, 0);
        for (int f = 0; f < 5; f++) {
            desk.roll.field(f, 99, 1);
        }
        desk.roll.terms(0, 1000, 1, 1000, 1, 0);
        Desk.due("11: the greatest upper", desk.roll.odds(0, 1, 0), 9509900499000L);
        Desk.due("11: its lower", desk.roll.odds(0, 1, 1), 1);
        Desk.due("11: its RISK", desk.roll.odds(0, 1, 3), 9509900499001L);
        desk.roll.terms(0, 1, 1000, 1, 1000, 0);
        Desk.due("11: the greatest lower", desk.roll.odds(1, 2, 1), 9509900499000L);
        Desk.due("11: its upper", desk.roll.odds(1, 2, 0), 1);
        Desk.due("11: its RISK's upper", desk.roll.odds(1, 2, 2), 9509900499000L);
        Desk.due("12: not joined by the least BOUND", desk.roll.person(2, 0), 2);
        desk.roll.terms(0, 1000, 1, 1000, 1, 0);
        Desk.due("12: joined by the greatest BOUND", desk.roll.person(1, 0), 0);
    }

    private static void persons() {
        Desk desk = pair();
        VoteRoll roll = desk.roll;
        roll.terms(0, 100, 100, 1, 1, 0);
        Desk.due("12: ODDS just BOUND", roll.person(1, 7), 0);
        roll.terms(0, 100, 100, 1000, 999, 0);
        Desk.due("12: ODDS just below BOUND", roll.person(1, 7), 1);
        Desk.due("13: PERSONS", roll.joined(7, 0), 2);
        Desk.due("12: not known yet", roll.person(1, 6), -1);
        Desk.due("13: PERSONS known", roll.joined(6, 0), 1);
        Desk.due("13: PERSONS known of none", roll.joined(4, 0), 0);
        Desk.due("12: no such RECORD", roll.person(2, 7), -1);
        Desk.due("12: no such RECORD", roll.person(-1, 7), -1);
        Desk.due("12: no such DAY", roll.person(0, 40001), -1);
        Desk.due("12: no such DAY", roll.person(0, -1), -1);
        Desk.due("13: no such DAY", roll.joined(40001, 0), -1);
        Desk.due("13: no such DAY", roll.joined(-1, 0), -1);
        Desk.due("13: no such what", roll.joined(7, 2), -1);
        Desk.due("13: no such what", roll.joined(7, -1), -1);
        roll.terms(1, 1, 1, 1, 1, 0);
        Desk.due("12: by SLACK", roll.person(1, 7), 0);
        desk.folds("d>f");
        roll.terms(0, 1, 2, 1, 1, 0);
        Desk.due("12: apart", roll.person(1, 7), 1);
        desk.folds("d>e");
        Desk.due("12: by FOLDS", roll.person(1, 7), 0);
        roll.field(0, 1, 99);
        Desk.due("12: by M and U", roll.person(1, 7), 1);
    }

    /** A chain: 0 is like 1, 1 is like 2, so all are one; and its name is its lowest RECORD that is known. */
    private static void order() {
        Desk desk = new Desk();
        desk.roll.terms(0, 1, 2, 1, 1, 0);
        desk.record("a,", 0, 6, 1, -1, -1, 0, 9);
        desk.record("a,", 0, 6, -1, -1, 5, 0, 0);
        desk.record(",", 0, 6, -1, -1, 5, 0, 0);
        desk.record("z,", 0, 6, 3, -1, 7, 0, 0);
        Desk.due("12: by a third one", desk.roll.person(2, 9), 0);
        Desk.due("13: PERSONS", desk.roll.joined(9, 0), 2);
        Desk.due("12: the lowest RECORD known", desk.roll.person(2, 8), 1);
        Desk.due("13: PERSONS known", desk.roll.joined(8, 0), 2);
        Desk.due("12: alone", desk.roll.person(3, 9), 3);
    }

    private static void firstBound() {
        Desk desk = new Desk();
        desk.roll.field(0, 10, 1);
        desk.roll.field(1, 10, 1);
        desk.record("a,b", 0, 6, -1, -1, -1, 0, 0);
        desk.record("a,b", 0, 6, -1, -1, -1, 0, 0);
        Desk.due("12: BOUND is 1 to 1 at first", desk.roll.person(1, 0), 0);
        desk.roll.field(1, 19, 2);
        Desk.due("12: just below it", desk.roll.person(1, 0), 1);
    }

    /** 2 is like 0 by the family's name, like 1 by the given one; LIST 0 names each ONCE. */
    private static int nearer(int familyM, int familyU, int givenM, int givenU) {
        Desk desk = new Desk();
        desk.roll.terms(0, 1, 1, 1, 1, 1);
        desk.roll.field(0, familyM, familyU);
        desk.roll.field(1, givenM, givenU);
        desk.record("a,", 0, 6, -1, -1, -1, 0, 0);
        desk.record(",b", 0, 6, -1, -1, -1, 0, 0);
        desk.record("a,b", 1, 6, -1, -1, -1, 0, 0);
        return desk.roll.person(2, 0);
    }

    private static void closeOdds() {
        Desk.due("12: 9 and 9 1/2", nearer(90, 10, 95, 10), 1);
        Desk.due("12: 9 1/2 and 9", nearer(95, 10, 90, 10), 0);
        Desk.due("12: 9 and 9: the lower", nearer(90, 10, 9, 1), 0);
        Desk.due("12: 3 1/2 and 3 1/3", nearer(7, 2, 10, 3), 0);
        Desk.due("12: 3 1/3 and 3 1/2", nearer(10, 3, 7, 2), 1);
        Desk.due("12: 3 2/5 and 3 1/2", nearer(17, 5, 7, 2), 1);
        Desk.due("12: 98/97 and 97/96", nearer(98, 97, 97, 96), 1);
        Desk.due("12: 97/96 and 98/97", nearer(97, 96, 98, 97), 0);
        for (int m = 20; m <= 99; m += 7) {
            for (int u = 3; u < 20; u += 4) {
                for (int n = 21; n <= 99; n += 6) {
                    for (int v = 2; v < 20; v += 3) {
                        Desk.due("12: " + m + "/" + u + " and " + n + "/" + v, nearer(m, u, n, v),
                                m * v >= n * u ? 0 : 1);
                    }
                }
            }
        }
    }

    private static void quarrels() {
        Desk desk = new Desk();
        // 0 and 1 of LIST 3; 2 is like 1 by two FIELDS, like 0 by one
        desk.record("a,", 3, 6, 5, -1, -1, 0, 0);
        desk.record("a,", 3, 6, 6, -1, -1, 0, 0);
        desk.record("a,", 4, 6, 6, -1, -1, 0, 0);
        desk.roll.terms(0, 1, 1, 1, 1, 8);
        Desk.due("12: the greatest ODDS first", desk.roll.person(2, 0), 1);
        Desk.due("12: 0 is alone", desk.roll.person(0, 0), 0);
        Desk.due("13: QUARRELS", desk.roll.joined(0, 1), 2);
        Desk.due("13: PERSONS", desk.roll.joined(0, 0), 2);
        desk.roll.terms(0, 1, 1, 1, 1, 16);
        Desk.due("13: another LIST names each ONCE", desk.roll.joined(0, 1), 0);
        Desk.due("13: one PERSON then", desk.roll.joined(0, 0), 1);
        desk.roll.terms(0, 1, 1, 1, 1, 8);
        desk.record("a,", 4, 6, 5, -1, -1, 0, 1);
        Desk.due("12: of alike ODDS the lower first RECORD first", desk.roll.person(3, 1), 0);
        Desk.due("13: QUARRELS between PERSONS", desk.roll.joined(1, 1), 4);
        Desk.due("13: PERSONS", desk.roll.joined(1, 0), 2);
        Desk alike = new Desk();
        alike.roll.terms(0, 1, 1, 1, 1, 1);
        alike.record("a,", 1, 6, -1, -1, -1, 0, 0);
        alike.record("a,", 0, 6, -1, -1, -1, 0, 0);
        alike.record("a,", 0, 6, -1, -1, -1, 0, 0);
        alike.record("a,", 2, 6, -1, -1, -1, 0, 0);
        Desk.due("12: of alike ones the lower other RECORD first", alike.roll.person(1, 0), 0);
        Desk.due("12: so the other is out", alike.roll.person(2, 0), 2);
        Desk.due("12: and the last goes to the lower", alike.roll.person(3, 0), 0);
        Desk.due("13: QUARRELS", alike.roll.joined(0, 1), 3);
        Desk one = new Desk();
        one.record("a,", 1, 6, -1, -1, -1, 0, 0);
        Desk.due("13: no pair, no QUARREL", one.roll.joined(0, 1), 0);
    }
}
