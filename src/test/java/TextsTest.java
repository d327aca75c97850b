/** Promises 1 to 8: a new object, the TAPE, FOLDS, LAW, FAULT, RECORDS and their names. */
public final class TextsTest {
    private static final int BLANKS = 0x20202020;

    public static void main(String[] args) {
        newObject();
        feedAndEnd();
        folds();
        lawClauses();
        lawFaults();
        lawLimits();
        fault();
        record();
        folded();
        Desk.finish();
    }

    private static void newObject() {
        VoteRoll roll = new VoteRoll();
        for (int what = 0; what <= 7; what++) {
            Desk.due("1: count(" + what + ") of a new object", roll.count(what), 0);
        }
        Desk.due("1: fault() of a new object", roll.fault(), -1);
        Desk.due("1: status() of a new object", roll.status(), 0);
        Desk.due("1: person(0, 0) of a new object", roll.person(0, 0), -1);
        Desk.due("1: joined(0, 0) of a new object", roll.joined(0, 0), 0);
        Desk.due("1: planned(-1) of a new object", roll.planned(-1), -1);
        Desk.due("1: planned(0) of a new object", roll.planned(0), -1);
        Desk.due("1: missing(-1, 2) of a new object", roll.missing(-1, 2), -1);
        Desk.due("1: ward(-1, 0, 0, 0) of a new object", roll.ward(-1, 0, 0, 0), 0);
        Desk.due("1: clear() of a new object", roll.clear(), 0);
        VoteRoll other = new VoteRoll();
        other.feed(BLANKS, BLANKS, BLANKS, BLANKS, BLANKS);
        Desk.due("1: another object's TAPE is its own", roll.count(7), 0);
    }

    private static void feedAndEnd() {
        VoteRoll roll = new VoteRoll();
        for (int i = 1; i <= 20; i++) {
            Desk.due("2: feed " + i, roll.feed(BLANKS, BLANKS, BLANKS, BLANKS, BLANKS), 20 * i);
        }
        Desk.due("2: feed beyond 400", roll.feed(BLANKS, BLANKS, BLANKS, BLANKS, BLANKS), -1);
        Desk.due("2: count(7) after it", roll.count(7), 400);
        Desk.due("3: end(401)", roll.end(401), -1);
        Desk.due("3: end(-1)", roll.end(-1), -1);
        Desk.due("3: end(least)", roll.end(Integer.MIN_VALUE), -1);
        Desk.due("3: end(381)", roll.end(381), 381);
        Desk.due("2: feed with room for 19", roll.feed(BLANKS, BLANKS, BLANKS, BLANKS, BLANKS), -1);
        Desk.due("3: end(380)", roll.end(380), 380);
        Desk.due("2: feed with room for 20", roll.feed(BLANKS, BLANKS, BLANKS, BLANKS, BLANKS), 400);
        Desk.due("3: end(0)", roll.end(0), 0);
        Desk.due("3: end(1) of none", roll.end(1), -1);
        // the highest byte first: "abcd>ef" would be a fault at 0, "dcba" too; "a>bc" is a PAIR
        roll.feed(0x613e6263, BLANKS, BLANKS, BLANKS, BLANKS);
        Desk.due("2: bytes from the highest", roll.folds(), 1);
        roll.feed(0x61612c20, 0xffffffff, BLANKS, BLANKS, BLANKS);
        roll.end(6);
        Desk.due("2: bytes above 127 are no letters", roll.record(0, 3, -1, -1, -1, 0, 0), -6);
        Desk.due("2: and lie where they were put", roll.fault(), 4);
    }

    private static void folds() {
        Desk desk = new Desk();
        Desk.due("4: three pairs", desk.folds(" ph>f , ck>k,ue>"), 3);
        Desk.due("4: count(1)", desk.roll.count(1), 3);
        Desk.due("4: the TAPE is empty then", desk.roll.count(7), 0);
        Desk.due("4: fault()", desk.roll.fault(), -1);
        Desk.due("4: a row of four on the left", desk.foldsFault("a>b, abcd>e"), 5);
        Desk.due("4: the FOLDS stay", desk.roll.count(1), 3);
        Desk.due("4: the TAPE is empty after a FAULT too", desk.roll.count(7), 0);
        Desk.due("4: status()", desk.roll.status(), -6);
        Desk.due("4: a row of four on the right", desk.foldsFault("abc>defg"), 4);
        Desk.due("4: no left", desk.foldsFault(">a"), 0);
        Desk.due("4: no sign", desk.foldsFault("a b"), 2);
        Desk.due("4: the end behind the left", desk.foldsFault("a  "), 3);
        Desk.due("4: the end behind a comma", desk.foldsFault("a>b, "), 5);
        Desk.due("4: two rows on the right", desk.foldsFault("a>b c"), 4);
        Desk.due("4: a digit", desk.foldsFault("a>1"), 2);
        Desk.due("4: a capital", desk.foldsFault("A>b"), 0);
        Desk.due("4: a tab is no blank", desk.foldsFault("a>b,\tc>d"), 4);
        Desk.due("4: 16 pairs", desk.folds("a>b" + ",a>b".repeat(15)), 16);
        Desk.due("4: 17 pairs", desk.foldsFault("a>b" + ",a>b".repeat(15) + ", a>b"), 65);
        Desk.due("4: the 17th is the FAULT even if it is none", desk.foldsFault("a>b" + ",a>b".repeat(15) + ",>"), 64);
        Desk.due("4: blanks alone", desk.folds("   "), 0);
        Desk.due("4: none then", desk.roll.count(1), 0);
        Desk.due("4: an empty TAPE", desk.roll.folds(), 0);
    }

    private static void lawClauses() {
        Desk desk = new Desk();
        Desk.due("5: all kinds", desk.law("age 1;proof 8;notice 0 days 40000;quiet 40000;appeal 0;nodoor 999;abroad 0;"
                + "strike if dead or moved or nohome or double or young or away or silent 40000 or ward 19"), 8);
        Desk.due("5: count(2)", desk.roll.count(2), 8);
        Desk.due("5: count(3)", desk.roll.count(3), 8);
        Desk.due("5: the TAPE is empty then", desk.roll.count(7), 0);
        Desk.due("5: no blanks needed, zeros ahead", desk.law("notice0002days 3;strike if silent3and(dead)"), 2);
        Desk.due("5: FACTS are the plain ones", desk.roll.count(3), 2);
        Desk.due("5: of each kind the last counts", desk.law("strike if dead or dead; age 1; strike if not not young"), 3);
        Desk.due("5: FACTS of the last CAUSE", desk.roll.count(3), 1);
        Desk.due("5: -6", desk.law("age"), -6);
        Desk.due("5: it stays", desk.roll.count(2), 3);
        Desk.due("5: the TAPE is empty after a FAULT too", desk.roll.count(7), 0);
        Desk.due("5: status()", desk.roll.status(), -6);
        Desk.due("5: blanks alone", desk.law("  "), 0);
        Desk.due("5: no CLAUSES then", desk.roll.count(2), 0);
        Desk.due("5: no FACTS then", desk.roll.count(3), 0);
        Desk.due("5: an empty TAPE", desk.roll.law(), 0);
    }

    private static void lawFaults() {
        Desk desk = new Desk();
        Desk.due("5: unknown word", desk.lawFault("age 1; agee 2"), 7);
        Desk.due("5: a FACT is no CLAUSE", desk.lawFault("dead"), 0);
        Desk.due("5: 40001", desk.lawFault("age 40001"), 4);
        Desk.due("5: a row of digits without end", desk.lawFault("age " + "9".repeat(300)), 4);
        Desk.due("5: zeros ahead of 40000", desk.lawFault("age " + "0".repeat(300) + "40000"), -1);
        Desk.due("5: proof 9", desk.lawFault("proof 9"), 6);
        Desk.due("5: proof 0", desk.lawFault("proof 0"), 6);
        Desk.due("5: nodoor 1000", desk.lawFault("nodoor 1000"), 7);
        Desk.due("5: ward 20", desk.lawFault("strike if ward 20"), 15);
        Desk.due("5: silent 40001", desk.lawFault("strike if silent 40001"), 17);
        Desk.due("5: silent without", desk.lawFault("strike if silent and dead"), 17);
        Desk.due("5: notice without days", desk.lawFault("notice 1; age 1"), 8);
        Desk.due("5: days alone", desk.lawFault("days 1"), 0);
        Desk.due("5: day of notice", desk.lawFault("notice 1 day 3"), 9);
        Desk.due("5: notice days", desk.lawFault("notice days 3"), 7);
        Desk.due("5: strike without if", desk.lawFault("strike dead"), 7);
        Desk.due("5: and at the end", desk.lawFault("strike if dead and"), 18);
        Desk.due("5: not at the end", desk.lawFault("strike if not"), 13);
        Desk.due("5: two FACTS", desk.lawFault("strike if dead dead"), 15);
        Desk.due("5: empty brackets", desk.lawFault("strike if ()"), 11);
        Desk.due("5: one bracket too many", desk.lawFault("strike if (dead))"), 16);
        Desk.due("5: a bracket left open", desk.lawFault("strike if ((dead)"), 17);
        Desk.due("5: a CLAUSE in brackets", desk.lawFault("strike if (dead; age 1)"), 15);
        Desk.due("5: a sign at the end", desk.lawFault("age 1;"), 6);
        Desk.due("5: a sign at the beginning", desk.lawFault(" ;age 1"), 1);
        Desk.due("5: a minus", desk.lawFault("age -1"), 4);
        Desk.due("5: a wrong first letter", desk.lawFault("bge 1"), 0);
        Desk.due("5: a wrong first letter", desk.lawFault("strike if bead"), 10);
        Desk.due("5: a wrong last letter", desk.lawFault("strike if deat"), 10);
        Desk.due("5: strike alone", desk.lawFault("strike"), 6);
        Desk.due("5: strike and the next", desk.lawFault("strike; age 1"), 6);
        Desk.due("5: strike if and the next", desk.lawFault("strike if; age 1"), 9);
        String[] ahead = {"age ", "quiet ", "appeal ", "abroad ", "notice ", "notice 1 days ", "strike if silent "};
        for (String words : ahead) {
            String behind = words.equals("notice ") ? " days 1" : "";
            Desk.due("5: " + words + "40001", desk.lawFault(words + "40001" + behind), words.length());
            Desk.due("5: " + words + "40000", desk.lawFault(words + "40000" + behind), -1);
        }
        Desk.due("5: nodoor 999", desk.lawFault("nodoor 999"), -1);
    }

    private static void lawLimits() {
        Desk desk = new Desk();
        Desk.due("5: 20 CLAUSES", desk.law("age 1" + ";age 1".repeat(19)), 20);
        Desk.due("5: 21 CLAUSES", desk.lawFault("age 1" + ";age 1".repeat(19) + "; age 1"), 121);
        Desk.due("5: 40 FACTS", desk.law("strike if dead" + " or dead".repeat(39)), 1);
        Desk.due("5: count(3) of them", desk.roll.count(3), 40);
        Desk.due("5: 41 FACTS", desk.lawFault("strike if dead" + " or dead".repeat(40)), 10 + 40 * 8);
        Desk.due("5: a wrong 41st", desk.lawFault("strike if dead" + " or dead".repeat(39) + " or silent"), 10 + 40 * 8);
        Desk.due("5: 10 brackets", desk.law("strike if " + "(".repeat(10) + "dead" + ")".repeat(10)), 1);
        Desk.due("5: 11 brackets", desk.lawFault("strike if " + "(".repeat(11) + "dead" + ")".repeat(11)), 20);
        Desk.due("5: brackets side by side", desk.law("strike if (dead)" + " or (dead)".repeat(19)), 1);
        Desk.due("5: not in a row", desk.law("strike if " + "not ".repeat(90) + "dead"), 1);
    }

    private static void fault() {
        Desk desk = new Desk();
        desk.law("age x");
        Desk.due("6: of law()", desk.roll.fault(), 4);
        desk.folds("abc >");
        Desk.due("6: NONE after what went well", desk.roll.fault(), -1);
        desk.record("a b", 0, 2, -1, -1, -1, 0, 0);
        Desk.due("6: of record()", desk.roll.fault(), 2);
        desk.record("a,b", 9, 2, -1, -1, -1, 0, 0);
        Desk.due("6: a record() refused ahead of reading leaves it", desk.roll.fault(), 2);
        Desk.due("6: and leaves the TAPE", desk.roll.count(7), 3);
        desk.roll.record(0, 2, -1, -1, -1, 0, 0);
        Desk.due("6: NONE after a RECORD", desk.roll.fault(), -1);
        desk.type("?");
        desk.roll.folds();
        desk.roll.vote(3);
        Desk.due("6: other calls leave it", desk.roll.fault(), 0);
    }

    private static void record() {
        Desk desk = new Desk();
        Desk.due("7: the first", desk.record("abcdefghijkl , mnopqrstuvwx ", 7, 6, 40000, 999, 9999, 40000, 40000), 0);
        Desk.due("7: the TAPE is empty then", desk.roll.count(7), 0);
        Desk.due("7: no names", desk.record(",", 0, 2, -1, -1, -1, 0, 0), 1);
        Desk.due("7: an empty TAPE", desk.record("", 0, 2, -1, -1, -1, 0, 0), -6);
        Desk.due("7: its FAULT", desk.roll.fault(), 0);
        Desk.due("7: 13 letters", desk.record("a,abcdefghijklm", 0, 2, -1, -1, -1, 0, 0), -6);
        Desk.due("7: their FAULT", desk.roll.fault(), 2);
        Desk.due("7: the TAPE is empty after a FAULT too", desk.roll.count(7), 0);
        Desk.due("7: two rows of a given name", desk.record("a,b c", 0, 2, -1, -1, -1, 0, 0), -6);
        Desk.due("7: their FAULT", desk.roll.fault(), 4);
        Desk.due("7: two commas", desk.record("a,,", 0, 2, -1, -1, -1, 0, 0), -6);
        Desk.due("7: their FAULT", desk.roll.fault(), 2);
        int[][] wrong = {{-1, 2, 0, 0, 0, 0, 0}, {8, 2, 0, 0, 0, 0, 0}, {0, -1, 0, 0, 0, 0, 0}, {0, 7, 0, 0, 0, 0, 0},
            {0, 2, -2, 0, 0, 0, 0}, {0, 2, 40001, 0, 0, 0, 0}, {0, 2, 0, -2, 0, 0, 0}, {0, 2, 0, 1000, 0, 0, 0},
            {0, 2, 0, 0, -2, 0, 0}, {0, 2, 0, 0, 10000, 0, 0}, {0, 2, 0, 0, 0, -1, 0}, {0, 2, 0, 0, 0, 40001, 0},
            {0, 2, 0, 0, 0, 0, -1}, {0, 2, 0, 0, 0, 0, 40001}, {0, 0, 0, -1, 0, 0, 0}, {0, 1, 0, -1, 0, 0, 0},
            {0, 5, 0, -1, 0, 0, 0}};
        desk.type("a,b");
        for (int[] w : wrong) {
            Desk.due("7: record(" + java.util.Arrays.toString(w) + ")",
                    desk.roll.record(w[0], w[1], w[2], w[3], w[4], w[5], w[6]), -1);
        }
        Desk.due("7: the TAPE stays", desk.roll.count(7), 3);
        for (int sort = 2; sort <= 6; sort++) {
            if (sort != 5) {
                Desk.due("7: SORT " + sort + " needs no PLACE", desk.record(sort == 2 ? "" : "a,b", 0, sort, -1, -1, -1, 0, 0),
                        desk.roll.count(0) - 1);
            }
        }
        while (desk.roll.count(0) < 120) {
            desk.record(",", 0, 2, -1, -1, -1, 0, 0);
        }
        desk.type("?");
        Desk.due("7: no room", desk.roll.record(0, 2, -1, -1, -1, 0, 0), -5);
        Desk.due("7: ahead of reading", desk.roll.count(7), 1);
        Desk.due("7: a wrong number comes first", desk.roll.record(9, 2, -1, -1, -1, 0, 0), -1);
    }

    private static void folded() {
        Desk desk = new Desk();
        desk.folds("ph>f,p>xyz,ff>g,e>");
        desk.tell("phepff,pppppppppppp", 6, -1, -1, 0);
        Desk.due("8: family's", desk.folded(0, 0), "fxyzg");
        Desk.due("8: given, three for each letter", desk.folded(0, 1), "xyz".repeat(12));
        Desk.due("8: how many", desk.roll.folded(0, 1, -1), 36);
        Desk.due("8: the last byte", desk.roll.folded(0, 1, 35), 'z');
        Desk.due("8: behind the last", desk.roll.folded(0, 1, 36), -1);
        Desk.due("8: i -2", desk.roll.folded(0, 0, -2), -1);
        Desk.due("8: i greatest", desk.roll.folded(0, 0, Integer.MAX_VALUE), -1);
        Desk.due("8: no such name", desk.roll.folded(0, 2, 0), -1);
        Desk.due("8: no such name", desk.roll.folded(0, -1, 0), -1);
        Desk.due("8: no such RECORD", desk.roll.folded(1, 0, 0), -1);
        Desk.due("8: no such RECORD", desk.roll.folded(-1, 0, -1), -1);
        desk.folds("p>q,ph>f");
        Desk.due("8: the first PAIR that fits, by the present FOLDS", desk.folded(0, 0), "qheqff");
        desk.tell("eee,", 6, -1, -1, 0);
        desk.folds("e>,ee>x");
        Desk.due("8: nothing is left", desk.roll.folded(1, 0, -1), 0);
        Desk.due("8: no byte 0 then", desk.roll.folded(1, 0, 0), -1);
        desk.folds("ab>ba,a>c");
        desk.tell("aab,abab", 6, -1, -1, 0);
        Desk.due("8: what came is not folded again", desk.folded(2, 0), "cba");
        Desk.due("8: it goes on behind", desk.folded(2, 1), "baba");
        desk.folds("ph>f");
        desk.tell("xxxxxxxxxxxp,hp", 6, -1, -1, 0);
        desk.tell("h,", 6, -1, -1, 0);
        Desk.due("8: each name is alone", desk.folded(3, 0) + "," + desk.folded(3, 1), "xxxxxxxxxxxp,hp");
        desk.type("a,pppppppppppppp");
        desk.roll.record(0, 6, -1, -1, -1, 0, 0);
        desk.type("p,h b");
        desk.roll.record(0, 6, -1, -1, -1, 0, 0);
        desk.tell("p,", 6, -1, -1, 0);
        Desk.due("8: nothing is left of a RECORD refused", desk.folded(5, 0) + "," + desk.folded(5, 1), "p,");
    }
}
