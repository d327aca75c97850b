/** Promises 17, 18, 20 to 25: ACTS, VOTES, the LINE, what a STRIKE LACKS, who may vote, WARDS, TRIED. */
public final class LinesTest {
    public static void main(String[] args) {
        acts();
        votes();
        entering();
        waiting();
        waitingOfTheDead();
        striking();
        notices();
        answers();
        quiet();
        appealing();
        askingAgain();
        orderOfADay();
        unknownActs();
        may();
        ward();
        tried();
        wrong();
        Desk.finish();
    }

    private static final int NOTICE = 0;
    private static final int ANSWER = 1;
    private static final int STRIKE = 2;
    private static final int APPEAL = 3;

    /** One person that asks on DAY 100, of age since long. */
    private static Desk asking(String law) {
        Desk desk = new Desk();
        desk.roll.terms(0, 1000, 1, 1, 1, 0);
        desk.law(law);
        desk.tell("a,", 5, 0, 60, 100);
        return desk;
    }

    private static void acts() {
        VoteRoll roll = asking("").roll;
        Desk.due("17: the first", roll.act(0, 0, 0, 40000), 1);
        Desk.due("17: SORT 5", roll.act(0, 5, 40000, 0), 2);
        int[][] wrong = {{0, -1, 0, 0}, {0, 6, 0, 0}, {0, 0, -1, 0}, {0, 0, 40001, 0}, {0, 0, 0, -1}, {0, 0, 0, 40001},
            {9, 6, 0, 0}};
        for (int[] w : wrong) {
            Desk.due("17: act " + java.util.Arrays.toString(w), roll.act(w[0], w[1], w[2], w[3]), -1);
        }
        Desk.due("17: no such RECORD", roll.act(1, 0, 0, 0), -2);
        Desk.due("17: no such RECORD", roll.act(-1, 0, 0, 0), -2);
        Desk.due("17: status()", roll.status(), -2);
        for (int i = 3; i <= 200; i++) {
            Desk.due("17: act " + i, roll.act(0, i % 6, 200 - i, 0), i);
        }
        Desk.due("17: no room", roll.act(0, 0, 0, 0), -5);
        Desk.due("17: no RECORD comes first", roll.act(1, 0, 0, 0), -2);
        Desk.due("17: a wrong number comes first", roll.act(1, 7, 0, 0), -1);
        Desk.due("17: count(4)", roll.count(4), 200);
        Desk.due("22: behind the last ACT", roll.lacks(200, 40000), -1);
        Desk.due("22: far behind the last ACT", roll.lacks(201, 40000), -1);
    }

    private static void votes() {
        VoteRoll roll = new VoteRoll();
        Desk.due("18: -1", roll.vote(-1), -1);
        Desk.due("18: 40001", roll.vote(40001), -1);
        for (int i = 1; i <= 12; i++) {
            Desk.due("18: vote " + i, roll.vote(i == 12 ? 40000 : i - 1), i);
        }
        Desk.due("18: twice comes ahead of no room", roll.vote(5), -4);
        Desk.due("18: no room", roll.vote(50), -5);
        Desk.due("18: status()", roll.status(), -5);
        Desk.due("18: count(5)", roll.count(5), 12);
    }

    private static void entering() {
        VoteRoll roll = asking("age 50").roll;
        Desk.due("20: OUT", roll.line(0, 99, 100), 0);
        Desk.due("21: OUT", roll.since(0, 99, 100), -1);
        Desk.due("20: IN", roll.line(0, 100, 100), 1);
        Desk.due("21: IN", roll.since(0, 40000, 100), 100);
        Desk none = new Desk();
        none.tell("a,", 0, 0, 60, 0);
        Desk.due("20: one that has not asked", none.roll.line(0, 40000, 40000), 0);
        Desk.due("21: one that has not asked", none.roll.since(0, 40000, 40000), -1);
    }

    private static void waiting() {
        Desk desk = new Desk();
        desk.roll.terms(0, 1000, 1, 1, 1, 0);
        desk.law("age 50");
        desk.tell("a,", 5, 80, 60, 100);
        desk.tell("a,", 5, -1, 60, 110);
        Desk.due("20: it WAITS", desk.roll.line(0, 105, 200), 3);
        Desk.due("21: since it asked", desk.roll.since(0, 105, 200), 100);
        Desk.due("21: since it asked last", desk.roll.since(0, 129, 200), 110);
        Desk.due("20: of age", desk.roll.line(0, 130, 200), 1);
        Desk.due("21: of age", desk.roll.since(0, 200, 200), 130);
        desk.record("a,", 0, 6, 70, -1, -1, 0, 300);
        desk.record("a,", 0, 6, 70, -1, -1, 0, 300);
        Desk.due("21: by what is known of BORN", desk.roll.since(0, 200, 300), 120);
        Desk.due("21: as known ahead", desk.roll.since(0, 200, 299), 130);
        Desk unborn = new Desk();
        unborn.tell("a,", 5, -1, 60, 100);
        Desk.due("20: without BORN it WAITS on", unborn.roll.line(0, 40000, 40000), 3);
        Desk.due("21: without BORN", unborn.roll.since(0, 40000, 40000), 100);
        Desk late = new Desk();
        late.law("age 40000");
        late.tell("a,", 5, 1, 60, 100);
        Desk.due("20: of age behind the last DAY", late.roll.line(0, 40000, 40000), 3);
        Desk exact = new Desk();
        exact.law("age 40000");
        exact.tell("a,", 5, 0, 60, 100);
        Desk.due("20: of age on the last DAY", exact.roll.line(0, 40000, 40000), 1);
    }

    private static void waitingOfTheDead() {
        Desk desk = new Desk();
        desk.roll.terms(0, 1000, 1, 1, 1, 0);
        desk.law("age 50; proof 1");
        desk.tell("a,", 5, 80, 60, 100);
        desk.record("a,", 1, 2, -1, -1, -1, 130, 500);
        Desk.due("20: dead on that DAY", desk.roll.line(0, 140, 500), 3);
        Desk.due("21: it WAITS on", desk.roll.since(0, 140, 500), 100);
        Desk.due("20: as known ahead", desk.roll.line(0, 140, 499), 1);
        Desk old = new Desk();
        old.roll.terms(0, 1000, 1, 1, 1, 0);
        old.law("age 10; proof 2");
        old.tell("a,", 5, 0, 60, 100);
        old.record("a,", 1, 2, -1, -1, -1, 90, 90);
        old.record("a,", 2, 2, -1, -1, -1, 100, 100);
        Desk.due("20: dead as it asks", old.roll.line(0, 100, 100), 3);
        Desk.due("20: and of age since long: it WAITS on", old.roll.line(0, 40000, 40000), 3);
        old.law("age 10; proof 3");
        Desk.due("20: by another LAW", old.roll.line(0, 100, 100), 1);
    }

    private static void striking() {
        Desk desk = asking("age 1; notice 0 days 0; strike if moved");
        desk.tell("a,", 1, -1, 300, 200);
        desk.roll.act(0, STRIKE, 99, 0);
        desk.roll.act(0, STRIKE, 199, 0);
        desk.roll.act(0, STRIKE, 200, 0);
        desk.roll.act(0, STRIKE, 201, 0);
        Desk.due("22: not IN yet", desk.roll.lacks(0, 300), 1);
        Desk.due("22: no CAUSE", desk.roll.lacks(1, 300), 5);
        Desk.due("22: LAWFUL", desk.roll.lacks(2, 300), 0);
        Desk.due("22: not IN any more", desk.roll.lacks(3, 300), 1);
        Desk.due("20: IN", desk.roll.line(0, 199, 300), 1);
        Desk.due("20: STRUCK", desk.roll.line(0, 200, 300), 2);
        Desk.due("21: STRUCK", desk.roll.since(0, 300, 300), 200);
        Desk.due("22: the CAUSE as known ahead", desk.roll.lacks(2, 199), 5);
        desk.law("age 1; notice 0 days 0");
        Desk.due("22: struck for no CAUSE at all", desk.roll.lacks(2, 300), 5);
        desk.law("age 201; notice 0 days 0; strike if young");
        Desk.due("22: it WAITS", desk.roll.lacks(2, 300), 1);
        Desk.due("22: it is IN ahead of all else of that DAY", desk.roll.lacks(3, 300), 5);
    }

    private static void notices() {
        Desk desk = asking("age 1; notice 2 days 10; strike if not dead");
        VoteRoll roll = desk.roll;
        roll.act(0, STRIKE, 150, 0);
        Desk.due("22: no NOTICE", roll.lacks(0, 300), 3);
        roll.act(0, NOTICE, 99, 0);
        roll.act(0, NOTICE, 141, 0);
        roll.act(0, NOTICE, 140, 0);
        Desk.due("22: one ahead of IN, one too late, one in time", roll.lacks(0, 300), 3);
        roll.act(0, NOTICE, 100, 250);
        Desk.due("22: two in time", roll.lacks(0, 300), 0);
        Desk.due("22: not known yet", roll.lacks(0, 249), 3);
        desk.law("age 1; notice 3 days 9; strike if not dead");
        Desk.due("22: three in time", roll.lacks(0, 300), 0);
        desk.law("age 1; notice 4 days 9; strike if not dead");
        Desk.due("22: four are not there", roll.lacks(0, 300), 3);
        desk.law("age 1; notice 40000 days 0; strike if not dead");
        Desk.due("22: so many never", roll.lacks(0, 300), 3);
        desk.law("strike if not dead; age 1");
        Desk.due("22: notice 1 days 30 without", roll.lacks(0, 300), 0);
        roll.act(0, STRIKE, 130, 0);
        roll.act(0, STRIKE, 129, 0);
        Desk.due("22: 30 DAYS without", roll.lacks(5, 300), 0);
        Desk.due("22: 29 DAYS", roll.lacks(6, 300), 3);
        desk.law("strike if not dead; age 120");
        Desk.due("22: NOTICES ahead of the DAY on which it came of age", roll.lacks(0, 300), 3);
        Desk before = asking("age 1; notice 1 days 5; appeal 50; strike if not dead");
        before.roll.act(0, NOTICE, 110, 0);
        before.roll.act(0, STRIKE, 120, 0);
        before.roll.act(0, APPEAL, 130, 0);
        before.roll.act(0, STRIKE, 140, 0);
        Desk.due("22: a NOTICE ahead of the DAY on which it was IN last", before.roll.lacks(3, 300), 3);
        before.roll.act(0, NOTICE, 130, 0);
        Desk.due("22: one on that DAY", before.roll.lacks(3, 300), 0);
        Desk same = asking("age 1; notice 1 days 0; strike if not dead");
        same.roll.act(0, STRIKE, 120, 0);
        Desk.due("22: none", same.roll.lacks(0, 300), 3);
        same.roll.act(0, NOTICE, 120, 0);
        Desk.due("22: NOTICES go by DAYS, not as told", same.roll.lacks(0, 300), 0);
        Desk answer = asking("age 1; notice 1 days 0; strike if not dead");
        answer.roll.act(0, ANSWER, 110, 0);
        answer.roll.act(0, NOTICE, 110, 0);
        answer.roll.act(0, STRIKE, 120, 0);
        Desk.due("22: and so do ANSWERS", answer.roll.lacks(2, 300), 4);
    }

    private static void answers() {
        Desk desk = asking("age 1; notice 2 days 10; strike if not dead");
        VoteRoll roll = desk.roll;
        roll.act(0, NOTICE, 110, 0);
        roll.act(0, NOTICE, 120, 0);
        roll.act(0, NOTICE, 130, 0);
        roll.act(0, STRIKE, 150, 0);
        roll.act(0, ANSWER, 119, 0);
        Desk.due("22: an ANSWER ahead of the latest two", roll.lacks(3, 300), 0);
        roll.act(0, ANSWER, 151, 0);
        Desk.due("22: an ANSWER behind the STRIKE", roll.lacks(3, 300), 0);
        roll.act(0, ANSWER, 120, 200);
        Desk.due("22: an ANSWER on the DAY of the first", roll.lacks(3, 300), 4);
        Desk.due("22: not known yet", roll.lacks(3, 199), 0);
        desk.law("age 1; notice 1 days 10; strike if not dead");
        Desk.due("22: ahead of the latest one", roll.lacks(3, 300), 0);
        roll.act(0, ANSWER, 150, 210);
        Desk.due("22: an ANSWER on the DAY of the STRIKE", roll.lacks(3, 300), 4);
        desk.law("age 1; notice 0 days 10; strike if not dead");
        Desk.due("22: none is wanted: not asked", roll.lacks(3, 300), 0);
        desk.law("age 1; notice 1 days 10; strike if dead");
        Desk.due("22: ANSWER comes ahead of the CAUSE", roll.lacks(3, 300), 4);
        desk.law("age 1; notice 9 days 10; strike if dead");
        Desk.due("22: NOTICES come ahead of that", roll.lacks(3, 300), 3);
        roll.vote(150);
        Desk.due("22: the VOTE comes ahead of that", roll.lacks(3, 300), 2);
        desk.law("age 300; notice 9 days 10; strike if dead");
        Desk.due("22: not IN comes first", roll.lacks(3, 300), 1);
    }

    private static void quiet() {
        Desk desk = asking("age 1; notice 0 days 0; quiet 10; strike if not dead");
        desk.roll.act(0, STRIKE, 150, 0);
        desk.roll.vote(149);
        Desk.due("22: a VOTE ahead of it", desk.roll.lacks(0, 300), 0);
        desk.roll.vote(161);
        Desk.due("22: a VOTE eleven DAYS behind", desk.roll.lacks(0, 300), 0);
        desk.law("age 1; notice 0 days 0; quiet 11; strike if not dead");
        Desk.due("22: eleven are quiet", desk.roll.lacks(0, 300), 2);
        desk.law("age 1; notice 0 days 0; quiet 0; strike if not dead");
        Desk.due("22: none is quiet", desk.roll.lacks(0, 300), 0);
        desk.roll.vote(150);
        Desk.due("22: but the DAY itself", desk.roll.lacks(0, 300), 2);
        Desk.due("20: so it is IN still", desk.roll.line(0, 300, 300), 1);
        Desk without = asking("age 1; notice 0 days 0; strike if not dead");
        without.roll.act(0, STRIKE, 150, 0);
        without.roll.vote(240);
        Desk.due("22: 90 without", without.roll.lacks(0, 300), 2);
        Desk later = asking("age 1; notice 0 days 0; strike if not dead");
        later.roll.act(0, STRIKE, 150, 0);
        later.roll.vote(241);
        Desk.due("22: 91", later.roll.lacks(0, 300), 0);
    }

    private static void appealing() {
        Desk desk = asking("age 1; notice 0 days 0; appeal 20; strike if not dead");
        desk.roll.act(0, APPEAL, 149, 0);
        desk.roll.act(0, STRIKE, 150, 0);
        desk.roll.act(0, APPEAL, 171, 0);
        Desk.due("20: an APPEAL ahead, one too late", desk.roll.line(0, 300, 300), 2);
        desk.roll.act(0, APPEAL, 170, 200);
        Desk.due("20: an APPEAL in time", desk.roll.line(0, 170, 300), 1);
        Desk.due("21: since it", desk.roll.since(0, 300, 300), 170);
        Desk.due("20: not known yet", desk.roll.line(0, 300, 199), 2);
        Desk without = asking("age 1; notice 0 days 0; strike if not dead");
        without.roll.act(0, STRIKE, 150, 0);
        without.roll.act(0, APPEAL, 211, 0);
        Desk.due("20: 61 DAYS", without.roll.line(0, 300, 300), 2);
        without.roll.act(0, APPEAL, 210, 0);
        Desk.due("20: 60 without", without.roll.line(0, 300, 300), 1);
        without.roll.act(0, STRIKE, 220, 0);
        without.roll.act(0, STRIKE, 230, 0);
        without.roll.act(0, APPEAL, 285, 0);
        Desk.due("20: from that STRIKE which made it so", without.roll.line(0, 300, 300), 2);
        Desk.due("21: since it", without.roll.since(0, 300, 300), 220);
        Desk out = asking("age 1000");
        out.roll.act(0, APPEAL, 120, 0);
        Desk.due("20: an APPEAL of one that WAITS", out.roll.line(0, 300, 300), 3);
    }

    private static void askingAgain() {
        Desk desk = asking("age 1; notice 0 days 0; strike if not dead; proof 2");
        desk.tell("a,", 5, -1, 60, 120);
        Desk.due("21: asking changes nothing, if IN", desk.roll.since(0, 130, 300), 100);
        desk.roll.act(0, STRIKE, 150, 0);
        desk.tell("a,", 5, -1, 60, 160);
        Desk.due("20: one that is STRUCK asks", desk.roll.line(0, 160, 300), 1);
        Desk.due("21: one that is STRUCK asks", desk.roll.since(0, 300, 300), 160);
        desk.roll.act(0, STRIKE, 170, 0);
        desk.record("a,", 1, 2, -1, -1, -1, 175, 0);
        desk.record("a,", 2, 2, -1, -1, -1, 175, 0);
        desk.tell("a,", 5, -1, 60, 180);
        Desk.due("20: one that is STRUCK and dead asks", desk.roll.line(0, 300, 300), 3);
        Desk.due("21: one that is STRUCK and dead asks", desk.roll.since(0, 300, 300), 180);
        desk.roll.act(0, APPEAL, 181, 0);
        Desk.due("20: it is not STRUCK any more", desk.roll.line(0, 300, 300), 3);
    }

    private static void orderOfADay() {
        Desk desk = asking("age 1; notice 0 days 0; strike if not dead; appeal 0");
        desk.roll.act(0, STRIKE, 100, 0);
        Desk.due("22: RECORDS ahead of ACTS", desk.roll.lacks(0, 300), 0);
        desk.roll.act(0, APPEAL, 100, 0);
        Desk.due("20: ACTS as they were told", desk.roll.line(0, 100, 300), 1);
        desk.roll.act(0, STRIKE, 100, 0);
        Desk.due("20: ACTS as they were told", desk.roll.line(0, 100, 300), 2);
        desk.tell("a,", 5, -1, 60, 100);
        Desk.due("20: RECORDS ahead of ACTS though told later", desk.roll.line(0, 100, 300), 2);
        Desk order = asking("age 1; notice 0 days 0; strike if not dead; appeal 50");
        order.roll.act(0, APPEAL, 120, 0);
        order.roll.act(0, STRIKE, 110, 0);
        Desk.due("20: ACTS by their DAYS", order.roll.line(0, 120, 300), 1);
    }

    private static void unknownActs() {
        Desk desk = new Desk();
        desk.law("age 1; notice 0 days 0; strike if not dead");
        desk.record("a,b", 0, 5, 0, 60, 7, 100, 100);
        desk.record("a,b", 1, 0, 0, 60, 7, 100, 200);
        desk.record("z,z", 1, 5, 1, 61, 8, 100, 100);
        desk.roll.act(1, STRIKE, 150, 150);
        Desk.due("20: about the PERSON of a RECORD", desk.roll.line(0, 150, 200), 2);
        Desk.due("20: of a RECORD not known", desk.roll.line(0, 150, 199), 1);
        Desk.due("22: of a RECORD known", desk.roll.lacks(0, 200), 0);
        Desk.due("22: of a RECORD not known", desk.roll.lacks(0, 199), -1);
        Desk.due("20: another PERSON is left alone", desk.roll.line(2, 150, 200), 1);
        desk.roll.terms(0, 1, 1000, 1000, 1, 0);
        Desk.due("20: PERSONS apart", desk.roll.line(0, 150, 200), 1);
        Desk.due("22: and the STRIKE goes with its RECORD", desk.roll.lacks(0, 200), 1);
    }

    private static void may() {
        Desk desk = asking("age 1; abroad 10; proof 2");
        Desk.due("23: not IN", desk.roll.may(0, 99, 300), 0);
        Desk.due("23: IN", desk.roll.may(0, 100, 300), 1);
        desk.tell("a,", 3, -1, -1, 110);
        Desk.due("23: abroad", desk.roll.may(0, 120, 300), 1);
        Desk.due("23: away", desk.roll.may(0, 121, 300), 0);
        Desk.due("20: though IN", desk.roll.line(0, 121, 300), 1);
        desk.tell("a,", 0, -1, 60, 130);
        Desk.due("23: home again", desk.roll.may(0, 130, 300), 1);
        desk.record("a,", 1, 2, -1, -1, -1, 140, 0);
        desk.record("a,", 2, 2, -1, -1, -1, 141, 0);
        Desk.due("23: dead by one LIST", desk.roll.may(0, 140, 300), 1);
        Desk.due("23: dead", desk.roll.may(0, 141, 300), 0);
    }

    private static void ward() {
        Desk desk = new Desk();
        desk.law("age 1; notice 0 days 0; strike if not dead");
        desk.record("a,b", 0, 5, 0, 49, 1, 100, 100);
        desk.record("c,d", 0, 5, 1, 50, 2, 100, 100);
        desk.record("e,f", 0, 5, 2, 99, 3, 100, 100);
        desk.record("g,h", 0, 5, 3, 99, 4, 100, 100);
        desk.record("i,j", 0, 0, 4, 99, 5, 100, 100);
        desk.roll.act(3, STRIKE, 110, 110);
        desk.record("e,f", 1, 2, 2, -1, 3, 120, 120);
        VoteRoll roll = desk.roll;
        Desk.due("24: IN of all", roll.ward(-1, 200, 200, 0), 3);
        Desk.due("24: STRUCK of all", roll.ward(-1, 200, 200, 1), 1);
        Desk.due("24: may vote of all", roll.ward(-1, 200, 200, 2), 2);
        Desk.due("24: may vote ahead of the death", roll.ward(-1, 119, 200, 2), 3);
        Desk.due("24: IN of WARD 0", roll.ward(0, 200, 200, 0), 1);
        Desk.due("24: IN of WARD 1", roll.ward(1, 200, 200, 0), 2);
        Desk.due("24: STRUCK of WARD 1", roll.ward(1, 200, 200, 1), 1);
        Desk.due("24: STRUCK of WARD 1 ahead", roll.ward(1, 109, 200, 1), 0);
        Desk.due("24: may vote of WARD 1", roll.ward(1, 200, 200, 2), 1);
        Desk.due("24: IN of WARD 19", roll.ward(19, 200, 200, 0), 0);
        Desk.due("24: none ahead of asking", roll.ward(-1, 99, 200, 0), 0);
        Desk.due("24: none known", roll.ward(-1, 200, 99, 0), 0);
        desk.record("a,b", 1, 5, 0, 950, 1, 150, 150);
        Desk.due("24: where it ASKED last", roll.ward(19, 200, 200, 0), 1);
        Desk.due("24: and not where it asked first", roll.ward(0, 200, 200, 0), 0);
        Desk.due("24: but ahead of that", roll.ward(0, 149, 200, 0), 1);
        int[][] wrong = {{-2, 0, 0, 0}, {20, 0, 0, 0}, {0, -1, 0, 0}, {0, 40001, 0, 0}, {0, 0, -1, 0}, {0, 0, 40001, 0},
            {0, 0, 0, -1}, {0, 0, 0, 3}};
        for (int[] w : wrong) {
            Desk.due("24: ward " + java.util.Arrays.toString(w), roll.ward(w[0], w[1], w[2], w[3]), -1);
        }
    }

    private static void tried() {
        Desk desk = new Desk();
        desk.law("age 1; strike if ward 1");
        String[] names = {"a,b", "c,d", "e,f", "g,h", "i,j", "k,l"};
        int[] places = {0, 50, 50, 0, 50, 50};
        for (int i = 0; i < 6; i++) {
            desk.record(names[i], 0, i == 5 ? 0 : 5, i, places[i], i, 100, 100);
        }
        VoteRoll roll = desk.roll;
        roll.act(0, 4, 0, 0);
        roll.act(1, 4, 0, 0);
        roll.act(2, 5, 0, 0);
        roll.act(3, 5, 0, 0);
        roll.act(5, 4, 0, 0);
        int[] dues = {1, 1, 1, 1};
        for (int what = 0; what < 4; what++) {
            Desk.due("25: what " + what, roll.tried(100, 100, what), dues[what]);
            Desk.due("25: none IN, what " + what, roll.tried(99, 100, what), 0);
        }
        roll.act(1, 5, 0, 150);
        Desk.due("25: the last told", roll.tried(100, 150, 0), 0);
        Desk.due("25: the last told", roll.tried(100, 150, 1), 2);
        Desk.due("25: not known yet", roll.tried(100, 149, 0), 1);
        roll.act(4, 4, 0, 150);
        Desk.due("25: another TRUTH", roll.tried(100, 150, 0), 1);
        desk.law("age 1");
        Desk.due("25: no CAUSE holds of none", roll.tried(100, 150, 0), 0);
        Desk.due("25: it leaves who may vote", roll.tried(100, 150, 2), 2);
        Desk.due("25: it leaves who may not", roll.tried(100, 150, 3), 3);
        int[][] wrong = {{-1, 0, 0}, {40001, 0, 0}, {0, -1, 0}, {0, 40001, 0}, {0, 0, -1}, {0, 0, 4}};
        for (int[] w : wrong) {
            Desk.due("25: tried " + java.util.Arrays.toString(w), roll.tried(w[0], w[1], w[2]), -1);
        }
    }

    private static void wrong() {
        Desk desk = asking("age 1");
        VoteRoll roll = desk.roll;
        int[][] wrong = {{1, 100, 100}, {-1, 100, 100}, {0, -1, 100}, {0, 40001, 100}, {0, 100, -1}, {0, 100, 40001},
            {0, 100, 99}};
        for (int[] w : wrong) {
            String at = java.util.Arrays.toString(w);
            Desk.due("20: line " + at, roll.line(w[0], w[1], w[2]), -1);
            Desk.due("21: since " + at, roll.since(w[0], w[1], w[2]), -1);
            Desk.due("23: may " + at, roll.may(w[0], w[1], w[2]), -1);
        }
        for (int sort = 0; sort <= 5; sort++) {
            roll.act(0, sort, 120, 130);
            Desk.due("22: lacks of SORT " + sort, roll.lacks(sort, 130), sort == STRIKE ? 3 : -1);
        }
        Desk.due("22: not known", roll.lacks(STRIKE, 129), -1);
        Desk.due("22: no such ACT", roll.lacks(6, 130), -1);
        Desk.due("22: no such ACT", roll.lacks(-1, 130), -1);
        Desk.due("22: no such DAY", roll.lacks(STRIKE, 40001), -1);
        Desk.due("22: no such DAY", roll.lacks(STRIKE, -1), -1);
    }
}
