/** Promises 29 to 37: CHANCES, costs, WISHES, their CASES, PLANNED; count and status. */
public final class PursesTest {
    public static void main(String[] args) {
        chancesAndCosts();
        wishes();
        cases();
        plans();
        planKept();
        manyWishes();
        counts();
        statuses();
        Desk.finish();
    }

    /** So many RECORDS, each a person of its own that has been heard on DAY 0. */
    private static Desk heard(int n) {
        Desk desk = new Desk();
        for (int i = 0; i < n; i++) {
            desk.record((char) ('a' + i % 26) + "," + (char) ('a' + i / 26), 0, 0, i, i, i, 0, 0);
        }
        return desk;
    }

    private static void chancesAndCosts() {
        VoteRoll roll = new VoteRoll();
        int[][] wrong = {{-1, 0, 0}, {4, 0, 0}, {0, -1, 0}, {0, 1001, 0}, {0, 0, -1}, {0, 0, 1001}};
        for (int[] w : wrong) {
            Desk.due("29: chances " + java.util.Arrays.toString(w), roll.chances(w[0], w[1], w[2]), -1);
        }
        Desk.due("29: status()", roll.status(), -1);
        Desk.due("29: the most", roll.chances(3, 1000, 1000), 0);
        Desk.due("29: status()", roll.status(), 0);
        Desk.due("30: letter 1001", roll.costs(1001, 0), -1);
        Desk.due("30: letter -1", roll.costs(-1, 0), -1);
        Desk.due("30: knock 1001", roll.costs(0, 1001), -1);
        Desk.due("30: knock -1", roll.costs(0, -1), -1);
        Desk.due("30: status()", roll.status(), -1);
        Desk.due("30: the most", roll.costs(1000, 1000), 0);
        Desk.due("30: status()", roll.status(), 0);
        Desk desk = heard(1);
        desk.roll.wish(0);
        Desk.due("29: no CHANCE at first", desk.roll.plan(10000, 0, 0), 0);
        desk.roll.chances(0, 3, 5);
        desk.roll.plan(9, 0, 0);
        Desk.due("30: a letter costs 1 at first", desk.roll.planned(-1), 1);
        desk.roll.plan(10, 0, 0);
        Desk.due("30: a knock costs 10 at first", desk.roll.planned(-1), 10);
        desk.roll.costs(2000, 3);
        desk.roll.plan(10, 0, 0);
        Desk.due("30: what was refused changed nothing", desk.roll.planned(-1), 10);
    }

    private static void wishes() {
        VoteRoll roll = heard(18).roll;
        Desk.due("31: no such RECORD", roll.wish(18), -2);
        Desk.due("31: no such RECORD", roll.wish(-1), -2);
        Desk.due("31: status()", roll.status(), -2);
        for (int i = 1; i <= 16; i++) {
            Desk.due("31: wish " + i, roll.wish(i), i);
        }
        Desk.due("31: no room", roll.wish(17), -5);
        Desk.due("31: twice comes ahead of no room", roll.wish(16), -4);
        Desk.due("31: no such RECORD comes ahead of that", roll.wish(18), -2);
        Desk.due("31: count(6)", roll.count(6), 16);
        Desk.due("32: clear()", roll.clear(), 16);
        Desk.due("32: status() is not its own", roll.status(), -2);
        Desk.due("32: clear() again", roll.clear(), 0);
        Desk.due("32: count(6)", roll.count(6), 0);
        Desk.due("31: the same RECORD anew", roll.wish(1), 1);
    }

    private static void cases() {
        Desk desk = new Desk();
        desk.roll.terms(0, 1000, 1, 1000, 1, 0);
        desk.record("a,", 0, 6, 1, -1, -1, 100, 100);
        VoteRoll roll = desk.roll;
        roll.wish(0);
        Desk.due("33: no HOME", roll.caseOf(0, 100, 100), 3);
        Desk.due("33: a RECORD not known", roll.caseOf(0, 100, 99), 3);
        desk.record("a,", 0, 0, 1, 60, -1, 110, 110);
        Desk.due("33: HEARD", roll.caseOf(0, 110, 110), 0);
        Desk.due("33: HEARD 365 DAYS ahead", roll.caseOf(0, 475, 475), 0);
        Desk.due("33: HEARD 366 DAYS ahead", roll.caseOf(0, 476, 476), 1);
        roll.act(0, 1, 120, 120);
        Desk.due("33: HEARD by an ANSWER", roll.caseOf(0, 485, 485), 0);
        desk.record("a,", 0, 3, 1, -1, -1, 500, 500);
        Desk.due("33: ABROAD", roll.caseOf(0, 500, 500), 2);
        desk.record("a,", 0, 4, 1, -1, -1, 510, 510);
        Desk.due("33: without a door", roll.caseOf(0, 510, 510), 3);
        desk.record("a,", 0, 3, 1, -1, -1, 520, 520);
        Desk.due("33: ABROAD and no HOME: the last", roll.caseOf(0, 520, 520), 3);
        desk.law("nodoor 5");
        Desk.due("33: by the LAW's PLACE", roll.caseOf(0, 520, 520), 2);
        Desk.due("33: by the LAW's PLACE", roll.caseOf(0, 510, 510), 0);
        roll.hide(1);
        Desk.due("33: a hidden PLACE is a HOME", roll.caseOf(0, 110, 110), 0);
        Desk.due("33: no such WISH", roll.caseOf(1, 100, 100), -1);
        Desk.due("33: no such WISH", roll.caseOf(-1, 100, 100), -1);
        Desk.due("33: no such DAY", roll.caseOf(0, 40001, 100), -1);
        Desk.due("33: no such DAY", roll.caseOf(0, -1, 100), -1);
        Desk.due("33: no such DAY", roll.caseOf(0, 100, 40001), -1);
        Desk.due("33: no such DAY", roll.caseOf(0, 100, -1), -1);
        roll.clear();
        Desk.due("33: no WISHES", roll.caseOf(0, 100, 100), -1);
    }

    private static String row(VoteRoll roll, int n) {
        StringBuilder text = new StringBuilder();
        for (int i = 0; i < n; i++) {
            text.append(roll.planned(i));
        }
        return text.toString();
    }

    private static void plans() {
        VoteRoll roll = heard(3).roll;
        Desk.due("35: none yet", roll.planned(-1), -1);
        Desk.due("34: no WISHES", roll.plan(5, 0, 0), 0);
        Desk.due("35: no WISHES", roll.planned(-1), 0);
        Desk.due("35: no WISHES", roll.planned(0), -1);
        for (int i = 0; i < 3; i++) {
            roll.wish(i);
        }
        roll.chances(0, 300, 500);
        roll.costs(2, 3);
        Desk.due("34: nothing for nothing", roll.plan(1, 0, 0), 0);
        Desk.due("35: nothing for nothing", row(roll, 3), "000");
        Desk.due("34: a letter", roll.plan(2, 0, 0), 300);
        Desk.due("35: the first as rows", row(roll, 3), "001");
        Desk.due("34: a knock", roll.plan(3, 0, 0), 500);
        Desk.due("35: a knock", row(roll, 3), "002");
        Desk.due("34: a letter and a knock", roll.plan(5, 0, 0), 800);
        Desk.due("35: a letter ahead", row(roll, 3), "012");
        Desk.due("35: what it costs", roll.planned(-1), 5);
        Desk.due("34: two knocks", roll.plan(6, 0, 0), 1000);
        Desk.due("35: two knocks", row(roll, 3), "022");
        Desk.due("35: what they cost", roll.planned(-1), 6);
        Desk.due("34: all knocks", roll.plan(10000, 0, 0), 1500);
        roll.chances(0, 500, 500);
        Desk.due("34: letters as good", roll.plan(10000, 0, 0), 1500);
        Desk.due("35: the least cost", row(roll, 3), "111");
        roll.costs(0, 0);
        roll.plan(0, 0, 0);
        Desk.due("35: of alike cost the first as rows", row(roll, 3), "111");
        roll.chances(0, 0, 0);
        roll.plan(100, 0, 0);
        Desk.due("35: no CHANCES: nothing", row(roll, 3), "000");
        roll.costs(3, 1);
        roll.chances(0, 100, 30);
        Desk.due("34: three knocks or a letter", roll.plan(3, 0, 0), 100);
        roll.chances(0, 90, 30);
        Desk.due("34: alike", roll.plan(3, 0, 0), 90);
        Desk.due("35: of alike CHANCES and cost the first as rows", row(roll, 3), "001");
        int[][] wrong = {{-1, 0, 0}, {10001, 0, 0}, {0, -1, 0}, {0, 40001, 0}, {0, 0, -1}, {0, 0, 40001}};
        for (int[] w : wrong) {
            Desk.due("34: plan " + java.util.Arrays.toString(w), roll.plan(w[0], w[1], w[2]), -1);
        }
        Desk.due("35: the latest stays", row(roll, 3), "001");
        Desk.due("35: no such WISH", roll.planned(3), -1);
        Desk.due("35: no such WISH", roll.planned(-2), -1);
        Desk.due("34: by what is known on that DAY", roll.plan(3, 366, 366), 0);
    }

    private static void planKept() {
        VoteRoll roll = heard(2).roll;
        roll.chances(0, 10, 20);
        roll.wish(0);
        roll.plan(1, 0, 0);
        roll.wish(1);
        Desk.due("35: a WISH behind the latest PLANNED", roll.planned(1), -1);
        roll.chances(0, 0, 0);
        roll.costs(9, 9);
        Desk.due("35: it is kept as it was", roll.planned(0), 1);
        Desk.due("35: and so its cost", roll.planned(-1), 1);
    }

    private static void manyWishes() {
        VoteRoll roll = heard(16).roll;
        for (int i = 0; i < 16; i++) {
            roll.wish(i);
        }
        roll.chances(0, 1, 1000);
        roll.costs(1, 1000);
        Desk.due("34: sixteen", roll.plan(10000, 0, 0), 10000);
        Desk.due("35: ten knocks", row(roll, 16), "0000002222222222");
        Desk.due("34: a letter less", roll.plan(9999, 0, 0), 9007);
        Desk.due("35: nine knocks", row(roll, 16), "1111111222222222");
        Desk.due("35: their cost", roll.planned(-1), 9007);
        roll.costs(1000, 1000);
        roll.chances(0, 1000, 1000);
        Desk.due("34: ten letters", roll.plan(10000, 0, 0), 10000);
        Desk.due("35: ten letters", row(roll, 16), "0000001111111111");
        roll.costs(0, 0);
        Desk.due("34: the most CHANCES", roll.plan(0, 0, 0), 16000);
    }

    private static void counts() {
        Desk desk = heard(3);
        desk.folds("a>b,c>d");
        desk.law("age 1; proof 1; quiet 1; strike if dead or dead and not dead or away or young");
        for (int i = 0; i < 6; i++) {
            desk.roll.act(0, 0, 0, 0);
        }
        for (int i = 0; i < 7; i++) {
            desk.roll.vote(i);
        }
        desk.roll.wish(2);
        desk.type("12345678");
        int[] dues = {3, 2, 4, 5, 6, 7, 1, 8};
        for (int what = 0; what <= 7; what++) {
            Desk.due("36: count(" + what + ")", desk.roll.count(what), dues[what]);
        }
        Desk.due("36: count(8)", desk.roll.count(8), -1);
        Desk.due("36: count(-1)", desk.roll.count(-1), -1);
    }

    private static void statuses() {
        Desk desk = new Desk();
        VoteRoll roll = desk.roll;
        roll.end(5);
        Desk.due("37: other calls are not told", roll.status(), 0);
        desk.folds("?");
        Desk.due("37: folds", roll.status(), -6);
        roll.fault();
        roll.plan(-1, 0, 0);
        roll.of(0, 0, 0, 0);
        roll.feed(0, 0, 0, 0, 0);
        roll.end(0);
        Desk.due("37: it stays", roll.status(), -6);
        desk.law("");
        Desk.due("37: law", roll.status(), 0);
        roll.record(9, 0, 0, 0, 0, 0, 0);
        Desk.due("37: record", roll.status(), -1);
        desk.tell("a,b", 0, 0, 0, 0);
        Desk.due("37: record", roll.status(), 0);
        roll.hide(7);
        Desk.due("37: hide", roll.status(), -2);
        roll.vote(3);
        Desk.due("37: vote", roll.status(), 0);
        roll.vote(3);
        Desk.due("37: vote", roll.status(), -4);
        roll.act(0, 0, 0, 0);
        Desk.due("37: act", roll.status(), 0);
        roll.wish(4);
        Desk.due("37: wish", roll.status(), -2);
        roll.doors(0, 1, 1, 1);
        Desk.due("37: doors", roll.status(), 0);
        roll.terms(9, 1, 1, 1, 1, 1);
        Desk.due("37: terms", roll.status(), -1);
        roll.chances(0, 0, 0);
        Desk.due("37: chances", roll.status(), 0);
        roll.field(9, 1, 1);
        Desk.due("37: field", roll.status(), -1);
        roll.costs(0, 0);
        Desk.due("37: costs", roll.status(), 0);
    }
}
