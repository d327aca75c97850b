/** Term VII, promises 29 to 35: WISHES and their CASES, CHANCES, costs, what is PLANNED. */
final class PurseEdges {
    private static final int NONE = VoteRoll.NONE;

    private PurseEdges() {
    }

    static void look() {
        roomForWishes();
        caseTerm();
        chancesAndCosts();
        plannedTerm();
        rows();
        chances();
        costs();
        wish();
        clear();
        caseOf();
        plan();
        planRefused();
        planned();
        plannedWithout();
    }

    /** So many RECORDS that say nothing but that each has a HOME and was heard on DAY 0, a WISH each. */
    private static VoteRoll wishing(int n) {
        VoteRoll roll = new VoteRoll();
        for (int i = 0; i < n; i++) {
            roll.feed(0x2c202020, 0x20202020, 0x20202020, 0x20202020, 0x20202020);
            roll.record(0, 0, i, i, i, 0, 0);
            roll.wish(i);
        }
        return roll;
    }

    private static String row(VoteRoll roll, int n) {
        StringBuilder text = new StringBuilder();
        for (int i = 0; i < n; i++) {
            text.append(roll.planned(i));
        }
        return text.toString();
    }

    private static void roomForWishes() {
        Edge.of("LETTERS and KNOCKS: a WISH (16 at most) is a RECORD.");
        VoteRoll roll = wishing(15);
        Desk desk = new Desk();
        Edge.due("no RECORD", desk.roll.wish(0), -2);
        roll.feed(0x2c202020, 0x20202020, 0x20202020, 0x20202020, 0x20202020);
        roll.record(0, 0, 15, 15, 15, 0, 0);
        roll.feed(0x2c202020, 0x20202020, 0x20202020, 0x20202020, 0x20202020);
        roll.record(0, 0, 16, 16, 16, 0, 0);
        Edge.due("the 16th", roll.wish(15), 16);
        Edge.due("the 17th", roll.wish(16), -5);
        Edge.due("WISHES then", roll.count(6), 16);
        Edge.due("the 16th has a CASE", roll.caseOf(15, 0, 0), 0);
        Edge.due("the 17th has none", roll.caseOf(16, 0, 0), NONE);
    }

    private static void caseTerm() {
        Edge.of("Its CASE on d as known on k: 0 HEARD not more than 365 DAYS ahead of d, 1 else; 2, if it is ABROAD; 3, if it has no"
                + " HOME (of these the last that holds).");
        Desk desk = FactEdges.desk("");
        desk.record("a,", 0, 0, NONE, 60, NONE, 100, 0);
        desk.roll.wish(0);
        VoteRoll roll = desk.roll;
        Edge.due("no HOME yet", roll.caseOf(0, 99, 0), 3);
        Edge.due("HEARD on d", roll.caseOf(0, 100, 0), 0);
        Edge.due("HEARD 365 DAYS ahead", roll.caseOf(0, 465, 0), 0);
        Edge.due("HEARD 366 DAYS ahead", roll.caseOf(0, 466, 0), 1);
        Edge.due("on the last DAY", roll.caseOf(0, 40000, 0), 1);
        roll.act(0, 1, 200, 50);
        Edge.due("HEARD by an ANSWER 365 DAYS ahead", roll.caseOf(0, 565, 50), 0);
        Edge.due("HEARD by an ANSWER 366 DAYS ahead", roll.caseOf(0, 566, 50), 1);
        Edge.due("by an ANSWER not known", roll.caseOf(0, 565, 49), 1);
        desk.record("a,", 0, 3, NONE, NONE, NONE, 600, 0);
        Edge.due("a DAY ahead of ABROAD", roll.caseOf(0, 599, 50), 1);
        Edge.due("ABROAD, HEARD", roll.caseOf(0, 600, 50), 2);
        Edge.due("ABROAD, not HEARD", roll.caseOf(0, 40000, 50), 2);
        Desk out = FactEdges.desk("");
        out.record("a,", 0, 3, NONE, NONE, NONE, 10, 0);
        out.roll.wish(0);
        Edge.due("ABROAD and no HOME", out.roll.caseOf(0, 10, 0), 3);
        out.record("a,", 0, 4, NONE, NONE, NONE, 20, 0);
        Edge.due("without a door, HEARD, no HOME", out.roll.caseOf(0, 20, 0), 3);
        out.law("nodoor 0");
        Edge.due("without a door, a HOME by the LAW", out.roll.caseOf(0, 20, 0), 0);
        Edge.due("no HOME ahead of that", out.roll.caseOf(0, 19, 0), 3);
    }

    private static void chancesAndCosts() {
        Edge.of("A CASE has a CHANCE in thousandths for a letter, for a knock (0 .. 1000 each; 0 at first); a letter costs so much, a"
                + " knock so much (0 .. 1000; 1, 10 at first).");
        VoteRoll roll = wishing(1);
        Edge.due("0 at first", roll.plan(10000, 0, 0), 0);
        Edge.due("nothing is done for it", roll.planned(0), 0);
        roll.chances(0, 1, 0);
        Edge.due("a letter with a purse of 0", roll.plan(0, 0, 0), 0);
        Edge.due("a letter costs 1 at first", roll.plan(1, 0, 0), 1);
        roll.chances(0, 0, 1);
        Edge.due("a knock with a purse of 9", roll.plan(9, 0, 0), 0);
        Edge.due("a knock costs 10 at first", roll.plan(10, 0, 0), 1);
        Edge.due("CHANCES 1000", roll.chances(0, 1000, 1000), 0);
        Edge.due("a letter's CHANCE 1001", roll.chances(0, 1001, 0), -1);
        Edge.due("a knock's CHANCE 1001", roll.chances(0, 0, 1001), -1);
        Edge.due("a letter's CHANCE -1", roll.chances(0, -1, 0), -1);
        Edge.due("a knock's CHANCE -1", roll.chances(0, 0, -1), -1);
        Edge.due("they are as they were", roll.plan(1, 0, 0), 1000);
        Edge.due("CHANCES 0", roll.chances(0, 0, 0), 0);
        Edge.due("none then", roll.plan(10000, 0, 0), 0);
        roll.chances(0, 7, 9);
        Edge.due("costs 1000", roll.costs(1000, 1000), 0);
        Edge.due("a purse of 999", roll.plan(999, 0, 0), 0);
        Edge.due("a purse of 1000", roll.plan(1000, 0, 0), 9);
        Edge.due("a letter costs 1001", roll.costs(1001, 0), -1);
        Edge.due("a knock costs 1001", roll.costs(0, 1001), -1);
        Edge.due("a letter costs -1", roll.costs(-1, 0), -1);
        Edge.due("a knock costs -1", roll.costs(0, -1), -1);
        Edge.due("they cost what they did", roll.plan(999, 0, 0), 0);
        Edge.due("costs 0", roll.costs(0, 0), 0);
        Edge.due("a purse of 0", roll.plan(0, 0, 0), 9);
    }

    private static void plannedTerm() {
        Edge.of("PLANNED for a purse (0 .. 10,000): for each WISH nothing, a letter or a knock, together not above it, so that the"
                + " CHANCES together are most; of alike ones the least cost;");
        VoteRoll roll = wishing(2);
        Edge.due("purse -1", roll.plan(-1, 0, 0), NONE);
        Edge.due("purse 0", roll.plan(0, 0, 0), 0);
        Edge.due("purse 10000", roll.plan(10000, 0, 0), 0);
        Edge.due("purse 10001", roll.plan(10001, 0, 0), NONE);
        roll.chances(0, 100, 150);
        roll.costs(3, 5);
        int[][] dues = {{2, 0, 0}, {3, 100, 3}, {4, 100, 3}, {5, 150, 5}, {6, 200, 6}, {7, 200, 6}, {8, 250, 8}, {9, 250, 8},
            {10, 300, 10}, {11, 300, 10}};
        for (int[] d : dues) {
            Edge.due("purse " + d[0], roll.plan(d[0], 0, 0), d[1]);
            Edge.due("its cost by purse " + d[0], roll.planned(NONE), d[2]);
        }
        roll.chances(0, 150, 150);
        Edge.due("of alike ones", roll.plan(10, 0, 0), 300);
        Edge.due("the least cost", roll.planned(NONE), 6);
        roll.costs(5, 3);
        Edge.due("of alike ones, knocks cheaper", roll.plan(10, 0, 0), 300);
        Edge.due("the least cost", roll.planned(NONE), 6);
        VoteRoll many = wishing(16);
        many.chances(0, 1000, 1000);
        many.costs(1000, 1000);
        Edge.due("10 of 16 by 10000", many.plan(10000, 0, 0), 10000);
        Edge.due("9 of 16 by 9999", many.plan(9999, 0, 0), 9000);
        many.costs(625, 1000);
        Edge.due("16 of 16 by just 10000", many.plan(10000, 0, 0), 16000);
        Edge.due("15 of 16 by 9999", many.plan(9999, 0, 0), 15000);
        many.costs(0, 0);
        Edge.due("16 of 16 by nothing", many.plan(0, 0, 0), 16000);
    }

    private static void rows() {
        Edge.of("of alike ones the least cost; then the first as rows (0, 1, 2).");
        VoteRoll roll = wishing(3);
        roll.chances(0, 100, 300);
        roll.costs(1, 3);
        roll.plan(1, 0, 0);
        Edge.due("one letter: for the last", row(roll, 3), "001");
        roll.plan(2, 0, 0);
        Edge.due("two letters: for the last two", row(roll, 3), "011");
        roll.plan(3, 0, 0);
        Edge.due("three letters or a knock, alike in CHANCES and cost", row(roll, 3), "002");
        roll.plan(4, 0, 0);
        Edge.due("a letter and a knock", row(roll, 3), "012");
        roll.plan(9, 0, 0);
        Edge.due("all knocks", row(roll, 3), "222");
        roll.chances(0, 300, 300);
        roll.costs(1, 1);
        roll.plan(3, 0, 0);
        Edge.due("alike in all: letters", row(roll, 3), "111");
        roll.chances(0, 0, 0);
        roll.costs(0, 0);
        roll.plan(3, 0, 0);
        Edge.due("no CHANCES: nothing", row(roll, 3), "000");
        unlikeRows();
        VoteRoll many = wishing(16);
        many.chances(0, 1, 2);
        many.costs(1, 2);
        many.plan(17, 0, 0);
        Edge.due("sixteen: 17 alike by letters and knocks", row(many, 16), "0000000122222222");
        many.plan(32, 0, 0);
        Edge.due("sixteen knocks", row(many, 16), "2".repeat(16));
        many.plan(31, 0, 0);
        Edge.due("fifteen knocks and a letter", row(many, 16), "1" + "2".repeat(15));
    }

    /** WISH 0 is of CASE 0, WISH 1 of CASE 1, WISH 2 of CASE 2 on DAY 400. */
    private static void unlikeRows() {
        Desk desk = new Desk();
        desk.record("a,", 0, 0, 1, 60, 1, 400, 0);
        desk.record("b,", 0, 0, 2, 120, 2, 0, 0);
        desk.record("c,", 0, 0, 3, 180, 3, 0, 0);
        desk.record("c,", 0, 3, 3, NONE, 3, 1, 0);
        desk.roll.terms(0, 1, 1, 1, 1, 0);
        VoteRoll roll = desk.roll;
        for (int i = 0; i < 3; i++) {
            roll.wish(i);
            Edge.due("the CASE of WISH " + i, roll.caseOf(i, 400, 400), i);
        }
        roll.costs(1, 1);
        roll.chances(0, 10, 0);
        roll.plan(1, 400, 400);
        Edge.due("a letter for the first alone", row(roll, 3), "100");
        roll.chances(1, 0, 10);
        roll.plan(2, 400, 400);
        Edge.due("a letter for the first, a knock for the second", row(roll, 3), "120");
        roll.chances(2, 20, 20);
        Edge.due("two of three", roll.plan(2, 400, 400), 30);
        Edge.due("of alike ones the first as rows", row(roll, 3), "021");
        roll.costs(1, 2);
        roll.plan(3, 400, 400);
        Edge.due("of alike CHANCES the least cost, though behind as rows", row(roll, 3), "101");
        roll.plan(2, 400, 400);
        Edge.due("two letters", row(roll, 3), "101");
    }

    private static void chances() {
        Edge.of("CHANCES of a CASE (0 .. 3): 0; -1.");
        VoteRoll roll = wishing(1);
        Edge.due("CASE -1", roll.chances(-1, 5, 5), -1);
        Edge.due("CASE 4", roll.chances(4, 5, 5), -1);
        Edge.due("CASE least", roll.chances(Edge.LEAST, 5, 5), -1);
        Edge.due("CASE greatest", roll.chances(Edge.GREATEST, 5, 5), -1);
        Edge.due("a letter least", roll.chances(0, Edge.LEAST, 5), -1);
        Edge.due("a knock greatest", roll.chances(0, 5, Edge.GREATEST), -1);
        Edge.due("status()", roll.status(), -1);
        for (int sort = 0; sort <= 3; sort++) {
            Edge.due("CASE " + sort, roll.chances(sort, 10 + sort, 20 + sort), 0);
        }
        Edge.due("status()", roll.status(), 0);
        // the CASE is 0 on DAY 365, 1 on 366; by one not known it is 3
        Edge.due("by CASE 0", roll.plan(10, 365, 0), 20);
        Edge.due("by CASE 1", roll.plan(10, 366, 0), 21);
        Desk desk = FactEdges.desk("");
        desk.record("a,", 0, 0, NONE, 60, NONE, 0, 5);
        desk.record("a,", 0, 3, NONE, NONE, NONE, 9, 5);
        desk.roll.wish(0);
        desk.roll.chances(2, 12, 22);
        desk.roll.chances(3, 13, 23);
        Edge.due("by CASE 2", desk.roll.plan(10, 9, 5), 22);
        Edge.due("by CASE 3", desk.roll.plan(10, 9, 4), 23);
    }

    private static void costs() {
        Edge.of("What a letter, a knock cost: 0; -1.");
        VoteRoll roll = wishing(1);
        roll.chances(0, 5, 9);
        Edge.due("0 and 1000", roll.costs(0, 1000), 0);
        Edge.due("status()", roll.status(), 0);
        roll.plan(999, 0, 0);
        Edge.due("a letter for nothing", roll.planned(NONE), 0);
        roll.plan(1000, 0, 0);
        Edge.due("a knock for 1000", roll.planned(NONE), 1000);
        for (int cost : new int[] {-1, 1001, Edge.LEAST, Edge.GREATEST}) {
            Edge.due("a letter for " + cost, roll.costs(cost, 5), -1);
            Edge.due("a knock for " + cost, roll.costs(5, cost), -1);
        }
        Edge.due("status()", roll.status(), -1);
        roll.plan(1000, 0, 0);
        Edge.due("what is refused changes nothing", roll.planned(NONE), 1000);
    }

    private static void wish() {
        Edge.of("A WISH: how many there are. -2; -4 (of the same RECORD); -5.");
        Desk desk = new Desk();
        Edge.due("no RECORD at all", desk.roll.wish(0), -2);
        desk.fill(18);
        VoteRoll roll = desk.roll;
        for (int record : new int[] {-1, 18, Edge.LEAST, Edge.GREATEST}) {
            Edge.due("RECORD " + record, roll.wish(record), -2);
        }
        Edge.due("the last RECORD", roll.wish(17), 1);
        Edge.due("the same RECORD", roll.wish(17), -4);
        Edge.due("the first RECORD", roll.wish(0), 2);
        Edge.due("the same RECORD", roll.wish(0), -4);
        for (int i = 3; i <= 16; i++) {
            Edge.due("WISH " + i, roll.wish(i), i);
        }
        Edge.due("the 17th", roll.wish(1), -5);
        Edge.due("how many there are", roll.count(6), 16);
        Edge.due("one told already", roll.wish(16), -4);
    }

    private static void clear() {
        Edge.of("WISHES are none: how many there were.");
        VoteRoll roll = wishing(16);
        Edge.due("16", roll.clear(), 16);
        Edge.due("none", roll.clear(), 0);
        Edge.due("count(6)", roll.count(6), 0);
        Edge.due("their CASES are none", roll.caseOf(0, 0, 0), NONE);
        Edge.due("the same RECORD anew", roll.wish(15), 1);
        Edge.due("it is WISH 0", roll.caseOf(0, 0, 0), 0);
        roll.chances(0, 5, 0);
        Edge.due("it is alone", roll.plan(10000, 0, 0), 5);
        Edge.due("a new object", new VoteRoll().clear(), 0);
    }

    private static void caseOf() {
        Edge.of("CASE of a WISH (by its number) on d as known on k; NONE (a RECORD not known then: 3).");
        Desk desk = new Desk();
        Edge.due("no WISH at all", desk.roll.caseOf(0, 0, 0), NONE);
        desk.record("a,", 0, 0, 1, 60, 1, 0, 100);
        desk.record("b,", 0, 3, 2, 60, 2, 0, 0);
        VoteRoll roll = desk.roll;
        roll.wish(1);
        roll.wish(0);
        Edge.due("WISH 0 is RECORD 1", roll.caseOf(0, 0, 100), 3);
        Edge.due("WISH 1 is RECORD 0", roll.caseOf(1, 0, 100), 0);
        Edge.due("its RECORD is not known then", roll.caseOf(1, 0, 99), 3);
        Edge.due("behind the last WISH", roll.caseOf(2, 0, 100), NONE);
        Edge.due("WISH -1", roll.caseOf(-1, 0, 100), NONE);
        Edge.due("WISH least", roll.caseOf(Edge.LEAST, 0, 100), NONE);
        Edge.due("WISH greatest", roll.caseOf(Edge.GREATEST, 0, 100), NONE);
        for (int day : new int[] {-1, 40001}) {
            Edge.due("DAY " + day, roll.caseOf(1, day, 100), NONE);
            Edge.due("known on " + day, roll.caseOf(1, 0, day), NONE);
        }
        Edge.due("DAYS that can't be, of one not known", roll.caseOf(1, 40001, 99), NONE);
    }

    private static void plan() {
        Edge.of("PLANNED, kept as the latest: the CHANCES together.");
        VoteRoll roll = wishing(2);
        Edge.due("no CHANCES", roll.plan(100, 0, 0), 0);
        roll.chances(0, 10, 30);
        Edge.due("together", roll.plan(20, 0, 0), 60);
        Edge.due("kept", row(roll, 2), "22");
        Edge.due("another one", roll.plan(11, 0, 0), 40);
        Edge.due("kept as the latest", row(roll, 2), "12");
        roll.chances(0, 0, 0);
        roll.costs(7, 7);
        Edge.due("kept as it was", row(roll, 2), "12");
        Edge.due("its cost is kept as it was", roll.planned(NONE), 11);
        Edge.due("no WISHES", new VoteRoll().plan(10000, 0, 0), 0);
    }

    private static void planRefused() {
        Edge.of("NONE for a purse, DAYS that can't be.");
        VoteRoll roll = wishing(1);
        roll.chances(0, 10, 30);
        roll.plan(10, 0, 0);
        for (int purse : new int[] {-1, 10001, Edge.LEAST, Edge.GREATEST}) {
            Edge.due("purse " + purse, roll.plan(purse, 0, 0), NONE);
        }
        for (int day : new int[] {-1, 40001}) {
            Edge.due("DAY " + day, roll.plan(0, day, 0), NONE);
            Edge.due("known on " + day, roll.plan(0, 0, day), NONE);
        }
        Edge.due("the latest stays", roll.planned(0), 2);
        Edge.due("its cost stays", roll.planned(NONE), 10);
        Edge.due("purse 0, DAYS 40000", roll.plan(0, 40000, 40000), 0);
        Edge.due("another one is the latest", roll.planned(0), 0);
        Edge.due("purse 10000", roll.plan(10000, 0, 0), 30);
    }

    private static void planned() {
        Edge.of("What the latest PLANNED does for a WISH (0, 1, 2); its cost (wish NONE).");
        VoteRoll roll = wishing(3);
        roll.chances(0, 10, 30);
        roll.plan(11, 0, 0);
        Edge.due("nothing", roll.planned(0), 0);
        Edge.due("a letter", roll.planned(1), 1);
        Edge.due("a knock", roll.planned(2), 2);
        Edge.due("its cost", roll.planned(NONE), 11);
        roll.plan(0, 0, 0);
        Edge.due("nothing for nothing", row(roll, 3), "000");
        Edge.due("nothing costs 0", roll.planned(NONE), 0);
        VoteRoll full = wishing(16);
        full.chances(0, 10, 0);
        full.plan(1, 0, 0);
        Edge.due("the last of 16", full.planned(15), 1);
        Edge.due("the one ahead of it", full.planned(14), 0);
    }

    private static void plannedWithout() {
        Edge.of("its cost (wish NONE). NONE without.");
        VoteRoll roll = wishing(2);
        Edge.due("nothing PLANNED yet", roll.planned(0), NONE);
        Edge.due("no cost yet", roll.planned(NONE), NONE);
        roll.plan(-1, 0, 0);
        Edge.due("nothing PLANNED by a purse that can't be", roll.planned(NONE), NONE);
        roll.plan(5, 0, 0);
        Edge.due("the last WISH", roll.planned(1), 0);
        Edge.due("behind the last WISH", roll.planned(2), NONE);
        Edge.due("WISH -2", roll.planned(-2), NONE);
        Edge.due("WISH least", roll.planned(Edge.LEAST), NONE);
        Edge.due("WISH greatest", roll.planned(Edge.GREATEST), NONE);
        Edge.due("its cost", roll.planned(NONE), 0);
        roll.clear();
        roll.plan(5, 0, 0);
        Edge.due("PLANNED for no WISHES", roll.planned(0), NONE);
        Edge.due("that costs 0", roll.planned(NONE), 0);
    }
}
