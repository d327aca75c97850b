/** Terms V and VI, promises 17, 18, 20 to 25: ACTS, VOTES, the LINE, what a STRIKE LACKS, WARDS, TRIED. */
final class LineEdges {
    private static final int NONE = VoteRoll.NONE;
    private static final int NOTICE = 0;
    private static final int ANSWER = 1;
    private static final int STRIKE = 2;
    private static final int APPEAL = 3;
    private static final int TRUTH_MAY = 4;
    private static final int TRUTH_MAY_NOT = 5;
    private static final String EASY = "age 0;notice 0 days 0;quiet 0;strike if not dead";

    private LineEdges() {
    }

    static void look() {
        roomForActs();
        personOfAll();
        aboutThePerson();
        roomForVotes();
        beginsOut();
        orderOfTheLine();
        asksIfIn();
        asks();
        waits();
        strike();
        appeal();
        lackNotIn();
        lackVote();
        lackNotices();
        lackAnswer();
        lackCause();
        firstThatLacks();
        mayVote();
        act();
        vote();
        line();
        since();
        lacks();
        lacksWithout();
        may();
        ward();
        triedTerm();
        tried();
    }

    /** One PERSON, born on DAY 0, that asks at PLACE 60 on DAY 100. */
    private static Desk asking(String law) {
        Desk desk = FactEdges.desk(law);
        desk.tell("a,", 5, 0, 60, 100);
        return desk;
    }

    /** What a STRIKE LACKS that has one NOTICE so many DAYS ahead of it. */
    static int lackOfNotice(String law, int daysAhead) {
        Desk desk = asking((law.isEmpty() ? "" : law + ";") + "age 0;strike if not dead");
        desk.roll.act(0, NOTICE, 200 - daysAhead, 0);
        desk.roll.act(0, STRIKE, 200, 0);
        return desk.roll.lacks(1, 40000);
    }

    /** What a STRIKE LACKS that has a VOTE so many DAYS behind it. */
    static int lackOfVote(String law, int daysBehind) {
        Desk desk = asking((law.isEmpty() ? "" : law + ";") + "age 0;strike if not dead");
        desk.roll.act(0, NOTICE, 150, 0);
        desk.roll.act(0, STRIKE, 200, 0);
        desk.roll.vote(200 + daysBehind);
        return desk.roll.lacks(1, 40000);
    }

    /** The LINE of one that appeals so many DAYS behind a STRIKE. */
    static int lineAppealed(String law, int daysBehind) {
        Desk desk = asking((law.isEmpty() ? "" : law + ";") + "age 0;strike if not dead");
        desk.roll.act(0, NOTICE, 150, 0);
        desk.roll.act(0, STRIKE, 200, 0);
        desk.roll.act(0, APPEAL, 200 + daysBehind, 0);
        return desk.roll.line(0, 40000, 40000);
    }

    private static void roomForActs() {
        Edge.of("ACTS, 200 at most:");
        Desk desk = asking(EASY);
        for (int i = 1; i < 199; i++) {
            desk.roll.act(0, TRUTH_MAY, 0, 0);
        }
        Edge.due("the 199th", desk.roll.act(0, TRUTH_MAY, 0, 0), 199);
        Edge.due("the 200th", desk.roll.act(0, STRIKE, 150, 0), 200);
        Edge.due("the 201st", desk.roll.act(0, APPEAL, 150, 0), -5);
        Edge.due("ACTS then", desk.roll.count(4), 200);
        Edge.due("the 200th is done, the 201st is not", desk.roll.line(0, 150, 150), 2);
        Edge.due("what the 200th LACKS", desk.roll.lacks(199, 150), 0);
        Edge.due("there is no 201st", desk.roll.lacks(200, 150), NONE);
        Edge.due("TRIED with 200 TRUTHS and a STRIKE", desk.roll.tried(149, 149, 0), 1);
        Edge.due("TRIED behind the STRIKE", desk.roll.tried(150, 150, 0), 0);
        Desk notices = asking("age 0;notice 199 days 10;strike if not dead");
        for (int i = 0; i < 199; i++) {
            notices.roll.act(0, NOTICE, 140, 0);
        }
        notices.roll.act(0, STRIKE, 150, 0);
        Edge.due("199 NOTICES and a STRIKE", notices.roll.lacks(199, 150), 0);
        notices.law("age 0;notice 200 days 10;strike if not dead");
        Edge.due("200 NOTICES are wanted", notices.roll.lacks(199, 150), 3);
        Desk strikes = asking(EASY + ";appeal 0");
        for (int i = 0; i < 200; i++) {
            strikes.roll.act(0, i % 2 == 0 ? STRIKE : APPEAL, 150, 0);
        }
        Edge.due("100 STRIKES and APPEALS of one DAY", strikes.roll.line(0, 150, 150), 1);
        Edge.due("the last STRIKE of these", strikes.roll.lacks(198, 150), 0);
    }

    /** The most RECORDS of one PERSON: asked for all that goes through them. */
    private static void personOfAll() {
        Edge.of("All its ACTS 0 .. 3 and RECORDS of SORT 5 known by k, of DAYS not behind d, in order of DAYS");
        Desk desk = new Desk();
        desk.roll.terms(0, 1, 1, 1, 1, 0);
        desk.fill(120);
        desk.roll.act(119, TRUTH_MAY, 0, 0);
        Edge.due("120 RECORDS, none asks: the LINE", desk.roll.line(0, 40000, 40000), 0);
        Edge.due("120 RECORDS, none asks: TRIED", desk.roll.tried(40000, 40000, 2), 0);
        Edge.due("120 RECORDS, none asks: the WARDS", desk.roll.ward(NONE, 40000, 40000, 0), 0);
        Desk asks = new Desk();
        asks.roll.terms(0, 1, 1, 1, 1, 0);
        asks.law(EASY);
        asks.fill(118);
        asks.record("a,", 0, 5, 0, 60, NONE, 20, 0);
        asks.record("a,", 0, 5, 0, 60, NONE, 10, 0);
        asks.roll.act(0, STRIKE, 15, 0);
        asks.roll.act(0, TRUTH_MAY, 0, 0);
        Edge.due("120 RECORDS, the last asks first", asks.roll.since(0, 14, 0), 10);
        Edge.due("120 RECORDS, STRUCK between", asks.roll.line(0, 19, 0), 2);
        Edge.due("120 RECORDS, the one ahead of it asks last", asks.roll.since(0, 40000, 0), 20);
        Edge.due("120 RECORDS, TRIED", asks.roll.tried(20, 0, 0), 1);
        Edge.due("120 RECORDS, the WARD", asks.roll.ward(1, 20, 0, 0), 1);
        VoteRoll full = new VoteRoll();
        full.terms(0, 1, 1, 1, 1, 0);
        // "age0;strike if dead or not dead;notice0days0"
        full.feed(0x61676530, 0x3b737472, 0x696b6520, 0x69662064, 0x65616420);
        full.feed(0x6f72206e, 0x6f742064, 0x6561643b, 0x6e6f7469, 0x63653064);
        full.feed(0x61797330, 0x20202020, 0x20202020, 0x20202020, 0x20202020);
        Edge.due("its LAW", full.law(), 3);
        for (int i = 0; i < 120; i++) {
            full.feed(0x2c202020, 0x20202020, 0x20202020, 0x20202020, 0x20202020);
            full.record(0, 5, 0, 60, NONE, 10, 0);
        }
        for (int i = 0; i < 199; i++) {
            full.act(0, i % 2 == 0 ? STRIKE : APPEAL, 11, 0);
        }
        Edge.due("120 that ask, 199 ACTS", full.line(0, 12, 0), 2);
        full.act(0, APPEAL, 12, 0);
        Edge.due("120 that ask, 200 ACTS", full.line(0, 12, 0), 1);
        Edge.due("120 that ask, 200 ACTS: since", full.since(0, 12, 0), 12);
    }

    private static void aboutThePerson() {
        Edge.of("about the PERSON of a RECORD (as known on the day that is asked), on a DAY, known from a DAY on: 0 NOTICE,"
                + " 1 ANSWER, 2 STRIKE, 3 APPEAL, 4 TRUTH that it may vote, 5 TRUTH that it may not.");
        Desk desk = asking(EASY);
        desk.record("a,", 1, 0, NONE, 60, NONE, 0, 300);
        desk.record("z,", 1, 5, 1, 999, NONE, 100, 0);
        desk.roll.terms(0, 1, 1, 1, 1, 0);
        desk.roll.act(1, STRIKE, 200, 250);
        Edge.due("a DAY ahead of it", desk.roll.line(0, 199, 300), 1);
        Edge.due("on its DAY", desk.roll.line(0, 200, 300), 2);
        Edge.due("its RECORD is not known yet", desk.roll.line(0, 200, 299), 1);
        Edge.due("another PERSON's LINE", desk.roll.line(2, 200, 300), 1);
        Desk known = asking(EASY);
        known.roll.act(0, STRIKE, 200, 250);
        Edge.due("known a DAY too late", known.roll.line(0, 200, 249), 1);
        Edge.due("known just then", known.roll.line(0, 200, 250), 2);
        int[] lines = {1, 1, 2, 1, 1, 1};
        for (int sort = 0; sort <= 5; sort++) {
            Desk one = asking(EASY);
            one.roll.act(0, sort, 200, 0);
            Edge.due("the LINE behind SORT " + sort, one.roll.line(0, 200, 200), lines[sort]);
            Edge.due("may vote by TRUTH, SORT " + sort, one.roll.tried(150, 150, 0), sort == TRUTH_MAY ? 1 : 0);
            Edge.due("may not by TRUTH, SORT " + sort, one.roll.tried(150, 150, 1), sort == TRUTH_MAY_NOT ? 1 : 0);
            Edge.due("HEARD by SORT " + sort, one.roll.of(0, 200, 200, 4), sort == ANSWER ? 200 : 100);
        }
    }

    private static void roomForVotes() {
        Edge.of("VOTES: 12 DAYS at most.");
        Desk desk = asking(EASY);
        for (int i = 1; i <= 11; i++) {
            desk.roll.vote(i);
        }
        desk.roll.act(0, STRIKE, 200, 0);
        desk.roll.act(0, STRIKE, 199, 0);
        Edge.due("the 12th", desk.roll.vote(199), 12);
        Edge.due("the 13th", desk.roll.vote(200), -5);
        Edge.due("VOTES then", desk.roll.count(5), 12);
        Edge.due("the 12th is one", desk.roll.lacks(1, 200), 2);
        Edge.due("the 13th is none", desk.roll.lacks(0, 200), 0);
    }

    private static void beginsOut() {
        Edge.of("The LINE of a PERSON on d as known on k: it begins OUT.");
        Desk desk = asking("age 0");
        Edge.due("a DAY ahead of asking", desk.roll.line(0, 99, 100), 0);
        Edge.due("on the DAY of asking", desk.roll.line(0, 100, 100), 1);
        Desk never = FactEdges.desk("age 0");
        for (int sort : new int[] {0, 1, 2, 3, 4, 6}) {
            never.tell("a,", sort, 0, 60, sort);
        }
        never.roll.act(0, STRIKE, 50, 0);
        never.roll.act(0, APPEAL, 51, 0);
        Edge.due("one that never asks", never.roll.line(0, 40000, 40000), 0);
    }

    private static void orderOfTheLine() {
        Edge.of("All its ACTS 0 .. 3 and RECORDS of SORT 5 known by k, of DAYS not behind d, in order of DAYS (of alike ones RECORDS"
                + " ahead of ACTS, each as they were told):");
        Desk desk = FactEdges.desk(EASY + ";appeal 0");
        desk.tell("a,", 6, 0, NONE, 0);
        desk.roll.act(0, STRIKE, 100, 0);
        desk.tell("a,", 5, NONE, 60, 100);
        Edge.due("of one DAY: RECORDS ahead of ACTS, though told behind", desk.roll.line(0, 100, 100), 2);
        desk.roll.act(0, APPEAL, 100, 0);
        Edge.due("of one DAY: ACTS as they were told", desk.roll.line(0, 100, 100), 1);
        Edge.due("d a DAY ahead", desk.roll.line(0, 99, 100), 0);
        Desk turned = asking(EASY + ";appeal 0");
        turned.roll.act(0, APPEAL, 100, 0);
        turned.roll.act(0, STRIKE, 100, 0);
        Edge.due("of one DAY: the other way round", turned.roll.line(0, 100, 100), 2);
        Desk days = asking(EASY);
        days.roll.act(0, APPEAL, 121, 0);
        days.roll.act(0, STRIKE, 120, 0);
        Edge.due("in order of DAYS, not as told", days.roll.line(0, 121, 200), 1);
        Edge.due("d a DAY ahead of the last", days.roll.line(0, 120, 200), 2);
        days.roll.act(0, STRIKE, 130, 300);
        Edge.due("known by k", days.roll.line(0, 130, 300), 2);
        Edge.due("not known by k", days.roll.line(0, 130, 299), 1);
        days.record("a,", 0, 5, NONE, 60, NONE, 140, 400);
        Edge.due("a RECORD known by k", days.roll.line(0, 140, 400), 1);
        Edge.due("a RECORD not known by k", days.roll.line(0, 140, 399), 2);
    }

    private static void asksIfIn() {
        Edge.of("one that asks changes nothing, if the LINE is IN;");
        Desk desk = asking(EASY);
        desk.tell("a,", 5, NONE, 999, 120);
        Edge.due("the LINE", desk.roll.line(0, 120, 120), 1);
        Edge.due("since", desk.roll.since(0, 120, 120), 100);
        desk.record("a,", 3, 2, NONE, NONE, NONE, 130, 0);
        desk.tell("a,", 5, NONE, 999, 130);
        Edge.due("the LINE of one that is dead and IN", desk.roll.line(0, 130, 130), 1);
        Edge.due("since", desk.roll.since(0, 130, 130), 100);
        desk.roll.act(0, STRIKE, 125, 0);
        Edge.due("one that is not IN: the LINE", desk.roll.line(0, 130, 130), 3);
        Edge.due("one that is not IN: since", desk.roll.since(0, 130, 130), 130);
    }

    private static Desk askingOn(int day, int birth, int death) {
        Desk desk = FactEdges.desk("age 50");
        desk.record("a,", 0, 5, birth, 60, NONE, day, 0);
        if (death != NONE) {
            desk.record("a,", 1, 2, NONE, NONE, NONE, death, 300);
        }
        return desk;
    }

    private static void asks() {
        Edge.of("else it makes it IN, if it is not young and not dead on that DAY as known on k;");
        Edge.due("just of age", askingOn(100, 50, NONE).roll.line(0, 100, 300), 1);
        Edge.due("young by a DAY", askingOn(100, 51, NONE).roll.line(0, 100, 300), 3);
        Edge.due("BORN NONE", askingOn(100, NONE, NONE).roll.line(0, 100, 300), 3);
        Edge.due("dead on that DAY", askingOn(100, 0, 100).roll.line(0, 100, 300), 3);
        Edge.due("dead a DAY ahead", askingOn(100, 0, 99).roll.line(0, 100, 300), 3);
        Edge.due("dead a DAY behind", askingOn(100, 0, 101).roll.line(0, 101, 300), 1);
        Edge.due("dead, as known on k", askingOn(100, 0, 100).roll.line(0, 100, 299), 1);
        Desk struck = asking(EASY);
        struck.roll.act(0, STRIKE, 110, 0);
        struck.tell("a,", 5, NONE, 60, 120);
        Edge.due("one that is STRUCK, a DAY ahead", struck.roll.line(0, 119, 200), 2);
        Edge.due("one that is STRUCK", struck.roll.line(0, 120, 200), 1);
        Desk twice = askingOn(100, 60, NONE);
        twice.tell("a,", 5, NONE, 60, 115);
        Edge.due("one that WAITS and was IN meanwhile", twice.roll.since(0, 115, 300), 110);
    }

    private static void waits() {
        Edge.of("else it WAITS: then it is IN from the DAY (behind that one, not behind d) on which BORN is just \"age\" DAYS ago, if"
                + " it is not dead on it (all else of that DAY comes behind that); it WAITS on, if it is.");
        // born on 80, of age on 130
        VoteRoll plain = askingOn(100, 80, NONE).roll;
        Edge.due("on the DAY of asking", plain.line(0, 100, 300), 3);
        Edge.due("a DAY ahead of being of age", plain.line(0, 129, 300), 3);
        Edge.due("since it asked", plain.since(0, 129, 300), 100);
        Edge.due("not behind d: on the DAY", plain.line(0, 130, 300), 1);
        Edge.due("since that DAY", plain.since(0, 130, 300), 130);
        Edge.due("and on the last DAY", plain.since(0, 40000, 300), 130);
        Edge.due("of age on the DAY behind asking", askingOn(129, 80, NONE).roll.since(0, 300, 300), 130);
        Edge.due("of age on the DAY of asking: IN at once", askingOn(130, 80, NONE).roll.since(0, 300, 300), 130);
        Edge.due("of age on the DAY of asking, but dead", askingOn(130, 80, 130).roll.line(0, 300, 300), 3);
        Edge.due("of age ahead of asking, but dead", askingOn(131, 80, 131).roll.line(0, 40000, 300), 3);
        Edge.due("dead on the DAY of age", askingOn(100, 80, 130).roll.line(0, 130, 300), 3);
        Edge.due("it WAITS on", askingOn(100, 80, 130).roll.line(0, 40000, 300), 3);
        Edge.due("since it asked", askingOn(100, 80, 130).roll.since(0, 40000, 300), 100);
        Edge.due("dead a DAY behind the DAY of age", askingOn(100, 80, 131).roll.line(0, 131, 300), 1);
        Edge.due("dead on the DAY of age, not known", askingOn(100, 80, 130).roll.line(0, 130, 299), 1);
        Edge.due("BORN NONE WAITS on", askingOn(100, NONE, NONE).roll.line(0, 40000, 300), 3);
        Desk last = FactEdges.desk("age 40000");
        last.tell("a,", 5, 0, 60, 0);
        Edge.due("of age on the last DAY", last.roll.since(0, 40000, 40000), 40000);
        Edge.due("a DAY ahead of it", last.roll.line(0, 39999, 40000), 3);
        Desk never = FactEdges.desk("age 40000");
        never.tell("a,", 5, 1, 60, 1);
        Edge.due("of age behind the last DAY", never.roll.line(0, 40000, 40000), 3);
        Desk strike = askingOn(100, 80, NONE);
        strike.law("age 50;notice 0 days 0;quiet 0;strike if not dead");
        strike.roll.act(0, STRIKE, 130, 0);
        strike.roll.act(0, STRIKE, 129, 0);
        Edge.due("all else of that DAY comes behind that: a STRIKE", strike.roll.lacks(0, 300), 0);
        Edge.due("a STRIKE a DAY ahead", strike.roll.lacks(1, 300), 1);
        Edge.due("all else of that DAY comes behind that: the LINE", strike.roll.line(0, 130, 300), 2);
        strike.tell("a,", 5, NONE, 60, 130);
        Edge.due("all else of that DAY comes behind that: asking", strike.roll.line(0, 130, 300), 2);
    }

    private static void strike() {
        Edge.of("A STRIKE makes one that is IN STRUCK, if it is LAWFUL; else nothing.");
        Desk desk = asking("age 0;notice 0 days 0;quiet 0;strike if moved");
        desk.tell("a,", 1, NONE, 999, 150);
        desk.roll.act(0, STRIKE, 99, 0);
        desk.roll.act(0, STRIKE, 149, 0);
        desk.roll.act(0, STRIKE, 150, 0);
        desk.roll.act(0, STRIKE, 151, 0);
        Edge.due("one that is OUT", desk.roll.line(0, 99, 300), 0);
        Edge.due("not LAWFUL", desk.roll.line(0, 149, 300), 1);
        Edge.due("not LAWFUL: since", desk.roll.since(0, 149, 300), 100);
        Edge.due("LAWFUL", desk.roll.line(0, 150, 300), 2);
        Edge.due("LAWFUL: since", desk.roll.since(0, 150, 300), 150);
        Edge.due("one that is STRUCK: since", desk.roll.since(0, 151, 300), 150);
        Desk waiting = askingOn(100, 80, NONE);
        waiting.roll.act(0, STRIKE, 110, 0);
        Edge.due("one that WAITS", waiting.roll.line(0, 110, 300), 3);
    }

    private static void appeal() {
        Edge.of("An APPEAL makes one that is STRUCK IN again, if it is not more than \"appeal\" DAYS behind that STRIKE.");
        Edge.due("just so many", lineAppealed("appeal 20", 20), 1);
        Edge.due("one more", lineAppealed("appeal 20", 21), 2);
        Edge.due("appeal 0 on the DAY", lineAppealed("appeal 0", 0), 1);
        Edge.due("appeal 0 on the next", lineAppealed("appeal 0", 1), 2);
        Edge.due("a DAY ahead of it", lineAppealed("appeal 20", -1), 2);
        Edge.due("appeal 40000", lineAppealed("appeal 40000", 39800), 1);
        Desk desk = asking(EASY + ";appeal 20");
        desk.roll.act(0, STRIKE, 110, 0);
        desk.roll.act(0, STRIKE, 120, 0);
        desk.roll.act(0, APPEAL, 131, 0);
        Edge.due("that STRIKE which made it so", desk.roll.line(0, 131, 300), 2);
        desk.roll.act(0, APPEAL, 130, 0);
        Edge.due("just so many behind that one", desk.roll.since(0, 131, 300), 130);
        Edge.due("one that is IN stays so", desk.roll.line(0, 131, 300), 1);
        Desk out = FactEdges.desk(EASY);
        out.tell("a,", 6, 0, NONE, 0);
        out.roll.act(0, APPEAL, 10, 0);
        Edge.due("one that is OUT", out.roll.line(0, 10, 300), 0);
        Desk waiting = askingOn(100, 80, NONE);
        waiting.roll.act(0, APPEAL, 110, 0);
        Edge.due("one that WAITS", waiting.roll.line(0, 110, 300), 3);
        Edge.due("one that WAITS: since", waiting.roll.since(0, 110, 300), 100);
    }

    private static void lackNotIn() {
        Edge.of("A STRIKE on a DAY s LACKS, the first of: 1 it is not IN;");
        Desk desk = asking(EASY);
        int[] days = {99, 100, 101};
        for (int day : days) {
            desk.roll.act(0, STRIKE, day, 0);
        }
        Edge.due("a DAY ahead of asking", desk.roll.lacks(0, 300), 1);
        Edge.due("on the DAY of asking", desk.roll.lacks(1, 300), 0);
        Edge.due("STRUCK already", desk.roll.lacks(2, 300), 1);
        desk.roll.act(0, APPEAL, 100, 0);
        Edge.due("IN again by an APPEAL", desk.roll.lacks(2, 300), 0);
        Desk waiting = askingOn(100, 80, NONE);
        waiting.roll.act(0, STRIKE, 129, 0);
        Edge.due("it WAITS", waiting.roll.lacks(0, 300), 1);
    }

    private static void lackVote() {
        Edge.of("2 a VOTE is on s or not more than \"quiet\" DAYS behind it;");
        Edge.due("a DAY ahead of s", lackOfVote("quiet 10", -1), 0);
        Edge.due("on s", lackOfVote("quiet 10", 0), 2);
        Edge.due("a DAY behind s", lackOfVote("quiet 10", 1), 2);
        Edge.due("just so many", lackOfVote("quiet 10", 10), 2);
        Edge.due("one more", lackOfVote("quiet 10", 11), 0);
        Edge.due("quiet 0, on s", lackOfVote("quiet 0", 0), 2);
        Edge.due("quiet 0, a DAY behind s", lackOfVote("quiet 0", 1), 0);
        Edge.due("quiet 40000, on the last DAY", lackOfVote("quiet 40000", 39800), 2);
        Edge.due("quiet 40000, a DAY ahead of s", lackOfVote("quiet 40000", -1), 0);
    }

    private static int lackOfNotices(String law, int... days) {
        Desk desk = asking(law + ";age 0;strike if not dead");
        for (int day : days) {
            desk.roll.act(0, NOTICE, day, 0);
        }
        desk.roll.act(0, STRIKE, 200, 0);
        return desk.roll.lacks(days.length, 40000);
    }

    private static void lackNotices() {
        Edge.of("3 there are not so many NOTICES as told, each not ahead of the DAY on which it was IN last, and as many DAYS ahead of"
                + " s as told at least;");
        Edge.due("none of one", lackOfNotices("notice 1 days 10"), 3);
        Edge.due("none of none", lackOfNotices("notice 0 days 10"), 0);
        Edge.due("just so many DAYS", lackOfNotices("notice 1 days 10", 190), 0);
        Edge.due("a DAY less", lackOfNotices("notice 1 days 10", 191), 3);
        Edge.due("a DAY more", lackOfNotices("notice 1 days 10", 189), 0);
        Edge.due("on the DAY of IN", lackOfNotices("notice 1 days 10", 100), 0);
        Edge.due("a DAY ahead of IN", lackOfNotices("notice 1 days 10", 99), 3);
        Edge.due("just so many NOTICES", lackOfNotices("notice 3 days 10", 100, 150, 190), 0);
        Edge.due("one NOTICE less", lackOfNotices("notice 3 days 10", 150, 190), 3);
        Edge.due("so many, one ahead of IN", lackOfNotices("notice 3 days 10", 99, 150, 190), 3);
        Edge.due("so many, one too late", lackOfNotices("notice 3 days 10", 100, 150, 191), 3);
        Edge.due("two of one DAY are two", lackOfNotices("notice 2 days 10", 150, 150), 0);
        Edge.due("days 0, on s", lackOfNotices("notice 1 days 0", 200), 0);
        Edge.due("days 0, a DAY behind s", lackOfNotices("notice 1 days 0", 201), 3);
        Desk behind = asking("notice 1 days 0;age 0;strike if not dead");
        behind.roll.act(0, STRIKE, 200, 0);
        Edge.due("days 0, none on s", behind.roll.lacks(0, 40000), 3);
        behind.roll.act(0, NOTICE, 200, 0);
        Edge.due("days 0, on s, told behind the STRIKE", behind.roll.lacks(0, 40000), 0);
        Edge.due("days 100, on the DAY of IN", lackOfNotices("notice 1 days 100", 100), 0);
        Edge.due("days 101, on the DAY of IN", lackOfNotices("notice 1 days 101", 100), 3);
        Edge.due("40000 NOTICES", lackOfNotices("notice 40000 days 0", 150), 3);
        Desk desk = asking("notice 1 days 10;age 0;appeal 50;strike if not dead");
        desk.roll.act(0, NOTICE, 110, 0);
        desk.roll.act(0, STRIKE, 120, 0);
        desk.roll.act(0, APPEAL, 130, 0);
        desk.roll.act(0, STRIKE, 150, 0);
        Edge.due("ahead of the DAY on which it was IN last", desk.roll.lacks(3, 300), 3);
        desk.roll.act(0, NOTICE, 129, 0);
        Edge.due("a DAY ahead of the APPEAL", desk.roll.lacks(3, 300), 3);
        desk.roll.act(0, NOTICE, 130, 250);
        Edge.due("on the DAY of the APPEAL", desk.roll.lacks(3, 300), 0);
        Edge.due("which is not known yet", desk.roll.lacks(3, 249), 3);
        Desk other = asking("notice 1 days 0;age 0;strike if not dead");
        other.record("z,", 1, 5, 1, 999, NONE, 100, 0);
        other.roll.terms(0, 1, 1, 1, 1, 0);
        other.roll.act(1, NOTICE, 150, 0);
        other.roll.act(0, STRIKE, 150, 0);
        Edge.due("another PERSON's NOTICE", other.roll.lacks(1, 300), 3);
    }

    private static int lackAnswered(String law, int answer) {
        Desk desk = asking(law + ";age 0;strike if not dead");
        for (int day : new int[] {120, 140, 160}) {
            desk.roll.act(0, NOTICE, day, 0);
        }
        desk.roll.act(0, ANSWER, answer, 250);
        desk.roll.act(0, STRIKE, 200, 0);
        return desk.roll.lacks(4, 40000);
    }

    private static void lackAnswer() {
        Edge.of("4 there was an ANSWER not ahead of the first of these NOTICES (of the latest so many of them; none is wanted: not"
                + " asked) and not behind s;");
        Edge.due("a DAY ahead of the one", lackAnswered("notice 1 days 10", 159), 0);
        Edge.due("on the DAY of the one", lackAnswered("notice 1 days 10", 160), 4);
        Edge.due("a DAY ahead of the first of the latest two", lackAnswered("notice 2 days 10", 139), 0);
        Edge.due("on the DAY of the first of the latest two", lackAnswered("notice 2 days 10", 140), 4);
        Edge.due("a DAY ahead of the first of three", lackAnswered("notice 3 days 10", 119), 0);
        Edge.due("on the DAY of the first of three", lackAnswered("notice 3 days 10", 120), 4);
        Edge.due("on s", lackAnswered("notice 1 days 10", 200), 4);
        Edge.due("a DAY behind s", lackAnswered("notice 1 days 10", 201), 0);
        Edge.due("none is wanted: not asked", lackAnswered("notice 0 days 10", 180), 0);
        Edge.due("the latest one is too late: the one ahead of it counts", lackAnswered("notice 1 days 41", 140), 4);
        Edge.due("and an ANSWER ahead of that does not", lackAnswered("notice 1 days 41", 139), 0);
        Desk desk = asking("notice 1 days 10;age 0;strike if not dead");
        desk.roll.act(0, NOTICE, 150, 0);
        desk.roll.act(0, STRIKE, 200, 0);
        desk.roll.act(0, ANSWER, 170, 250);
        Edge.due("known a DAY too late", desk.roll.lacks(1, 249), 0);
        Edge.due("known just then", desk.roll.lacks(1, 250), 4);
        Desk ahead = asking("notice 1 days 10;age 0;strike if not dead");
        ahead.roll.act(0, ANSWER, 150, 0);
        ahead.roll.act(0, NOTICE, 150, 0);
        ahead.roll.act(0, STRIKE, 200, 0);
        Edge.due("on the DAY of the one, told ahead of it", ahead.roll.lacks(2, 40000), 4);
    }

    private static void lackCause() {
        Edge.of("5 the CAUSE does not hold on s as known on k. 0: it is LAWFUL.");
        Desk desk = asking("notice 0 days 0;age 0;strike if moved");
        desk.record("a,", 0, 1, NONE, 999, NONE, 150, 250);
        desk.roll.act(0, STRIKE, 149, 0);
        desk.roll.act(0, STRIKE, 150, 0);
        Edge.due("a DAY ahead", desk.roll.lacks(0, 250), 5);
        Edge.due("on s", desk.roll.lacks(1, 250), 0);
        Edge.due("as known a DAY ahead", desk.roll.lacks(1, 249), 5);
        desk.law("notice 0 days 0;age 0");
        Edge.due("no CAUSE at all", desk.roll.lacks(1, 250), 5);
    }

    private static void firstThatLacks() {
        Edge.of("A STRIKE on a DAY s LACKS, the first of:");
        Desk desk = asking("age 300;notice 1 days 10;quiet 10;strike if dead");
        VoteRoll roll = desk.roll;
        roll.act(0, STRIKE, 200, 0);
        roll.vote(200);
        Edge.due("1 ahead of 2, 3, 5", roll.lacks(0, 300), 1);
        desk.law("age 0;notice 1 days 10;quiet 10;strike if dead");
        Edge.due("2 ahead of 3, 5", roll.lacks(0, 300), 2);
        Desk third = asking("age 0;notice 1 days 10;quiet 10;strike if dead");
        third.roll.act(0, STRIKE, 200, 0);
        third.roll.act(0, ANSWER, 200, 0);
        Edge.due("3 ahead of 5, an ANSWER or not", third.roll.lacks(0, 300), 3);
        third.roll.act(0, NOTICE, 150, 0);
        Edge.due("4 ahead of 5", third.roll.lacks(0, 300), 4);
        third.law("age 0;notice 0 days 10;quiet 10;strike if dead");
        Edge.due("5", third.roll.lacks(0, 300), 5);
        third.law("age 0;notice 0 days 10;quiet 10;strike if not dead");
        Edge.due("nothing", third.roll.lacks(0, 300), 0);
    }

    private static void mayVote() {
        Edge.of("It may vote on d, if its LINE is IN, and it is not dead, nor away on d.");
        Desk desk = asking("age 0;abroad 10;proof 1;notice 0 days 0;strike if not dead");
        VoteRoll roll = desk.roll;
        Edge.due("OUT", roll.may(0, 99, 1000), 0);
        Edge.due("IN", roll.may(0, 100, 1000), 1);
        desk.tell("a,", 3, NONE, NONE, 110);
        Edge.due("ABROAD for just so many DAYS", roll.may(0, 120, 1000), 1);
        Edge.due("away", roll.may(0, 121, 1000), 0);
        desk.tell("a,", 0, NONE, 60, 130);
        Edge.due("back again", roll.may(0, 130, 1000), 1);
        roll.act(0, STRIKE, 140, 0);
        Edge.due("STRUCK", roll.may(0, 140, 1000), 0);
        roll.act(0, APPEAL, 150, 0);
        Edge.due("IN again", roll.may(0, 150, 1000), 1);
        desk.record("a,", 1, 2, NONE, NONE, NONE, 160, 500);
        Edge.due("a DAY ahead of its death", roll.may(0, 159, 1000), 1);
        Edge.due("dead", roll.may(0, 160, 1000), 0);
        Edge.due("though IN", roll.line(0, 160, 1000), 1);
        Edge.due("dead, not known yet", roll.may(0, 160, 499), 1);
        Edge.due("one that WAITS", askingOn(100, 80, NONE).roll.may(0, 129, 300), 0);
    }

    private static void act() {
        Edge.of("An ACT: how many there are. -1; -2; -5.");
        Desk desk = asking("");
        VoteRoll roll = desk.roll;
        Edge.due("no such RECORD in a new object", new VoteRoll().act(0, 0, 0, 0), -2);
        Edge.due("the first, SORT 0", roll.act(0, 0, 0, 0), 1);
        Edge.due("the second, SORT 5", roll.act(0, 5, 40000, 40000), 2);
        int[][] wrong = {{0, -1, 0, 0}, {0, 6, 0, 0}, {0, 0, -1, 0}, {0, 0, 40001, 0}, {0, 0, 0, -1}, {0, 0, 0, 40001},
            {0, Edge.LEAST, 0, 0}, {0, Edge.GREATEST, 0, 0}};
        for (int[] w : wrong) {
            Edge.due("act" + java.util.Arrays.toString(w), roll.act(w[0], w[1], w[2], w[3]), -1);
        }
        for (int record : new int[] {-1, 1, Edge.LEAST, Edge.GREATEST}) {
            Edge.due("RECORD " + record, roll.act(record, 0, 0, 0), -2);
        }
        Edge.due("how many there are", roll.count(4), 2);
        for (int i = 2; i < 200; i++) {
            roll.act(0, 0, 0, 0);
        }
        Edge.due("the 201st", roll.act(0, 0, 0, 0), -5);
        Edge.due("how many there are then", roll.count(4), 200);
    }

    private static void vote() {
        Edge.of("A VOTE: how many there are. -1; -4; -5.");
        VoteRoll roll = new VoteRoll();
        Edge.due("-1", roll.vote(-1), -1);
        Edge.due("40001", roll.vote(40001), -1);
        Edge.due("the least", roll.vote(Edge.LEAST), -1);
        Edge.due("the greatest", roll.vote(Edge.GREATEST), -1);
        Edge.due("DAY 40000", roll.vote(40000), 1);
        Edge.due("DAY 40000 twice", roll.vote(40000), -4);
        Edge.due("DAY 39999", roll.vote(39999), 2);
        Edge.due("DAY 0", roll.vote(0), 3);
        Edge.due("DAY 0 twice", roll.vote(0), -4);
        for (int i = 4; i <= 12; i++) {
            Edge.due("VOTE " + i, roll.vote(i), i);
        }
        Edge.due("the 13th", roll.vote(13), -5);
        Edge.due("one told already", roll.vote(12), -4);
        Edge.due("how many there are", roll.count(5), 12);
    }

    private static void line() {
        Edge.of("The LINE: 0 OUT, 1 IN, 2 STRUCK, 3 it WAITS (and is OUT); NONE.");
        Desk desk = FactEdges.desk("age 50;notice 0 days 0;strike if not dead");
        Edge.due("no RECORD at all", desk.roll.line(0, 0, 0), NONE);
        desk.record("a,", 0, 5, 80, 60, NONE, 100, 200);
        VoteRoll roll = desk.roll;
        roll.act(0, STRIKE, 140, 0);
        Edge.due("OUT", roll.line(0, 99, 200), 0);
        Edge.due("it WAITS", roll.line(0, 100, 200), 3);
        Edge.due("IN", roll.line(0, 130, 200), 1);
        Edge.due("STRUCK", roll.line(0, 140, 200), 2);
        Edge.due("one that WAITS is not counted IN", roll.ward(NONE, 100, 200, 0), 0);
        Edge.due("nor STRUCK", roll.ward(NONE, 100, 200, 1), 0);
        Edge.due("not known", roll.line(0, 140, 199), NONE);
        Edge.due("behind the last RECORD", roll.line(1, 140, 200), NONE);
        Edge.due("RECORD -1", roll.line(-1, 140, 200), NONE);
        for (int day : new int[] {-1, 40001}) {
            Edge.due("DAY " + day, roll.line(0, day, 200), NONE);
            Edge.due("known on " + day, roll.line(0, 140, day), NONE);
        }
    }

    private static void since() {
        Edge.of("Since which DAY the LINE is as it is (OUT: NONE; it WAITS: since it asked last); NONE.");
        Desk desk = FactEdges.desk("age 50;notice 0 days 0;strike if not dead");
        Edge.due("no RECORD at all", desk.roll.since(0, 0, 0), NONE);
        desk.record("a,", 0, 5, 80, 60, NONE, 100, 200);
        desk.record("a,", 0, 5, NONE, 60, NONE, 110, 200);
        VoteRoll roll = desk.roll;
        roll.act(0, STRIKE, 140, 0);
        roll.act(0, APPEAL, 150, 0);
        int[][] dues = {{99, NONE}, {100, 100}, {109, 100}, {110, 110}, {129, 110}, {130, 130}, {139, 130}, {140, 140},
            {149, 140}, {150, 150}, {40000, 150}};
        for (int[] d : dues) {
            Edge.due("on " + d[0], roll.since(0, d[0], 200), d[1]);
        }
        Edge.due("not known", roll.since(0, 140, 199), NONE);
        Edge.due("behind the last RECORD", roll.since(2, 140, 200), NONE);
        Edge.due("RECORD -1", roll.since(-1, 140, 200), NONE);
        for (int day : new int[] {-1, 40001}) {
            Edge.due("DAY " + day, roll.since(0, day, 200), NONE);
            Edge.due("known on " + day, roll.since(0, 140, day), NONE);
        }
        Desk zero = FactEdges.desk("age 0");
        zero.tell("a,", 5, 0, 60, 0);
        Edge.due("since DAY 0", zero.roll.since(0, 40000, 40000), 0);
    }

    private static void lacks() {
        Edge.of("What the STRIKE of that ACT (its number from 0 on) LACKS as known on a DAY: 0 .. 5.");
        Desk desk = asking("age 0;notice 1 days 5;quiet 5;strike if silent 20");
        VoteRoll roll = desk.roll;
        int[][] acts = {{STRIKE, 99}, {STRIKE, 110}, {NOTICE, 115}, {STRIKE, 116}, {STRIKE, 120}, {ANSWER, 121}, {STRIKE, 122},
            {NOTICE, 130}, {STRIKE, 142}};
        int[] dues = {1, 2, NONE, 3, 5, NONE, 4, NONE, 0};
        roll.vote(115);
        for (int[] a : acts) {
            roll.act(0, a[0], a[1], 0);
        }
        for (int i = 0; i < acts.length; i++) {
            Edge.due("ACT " + i, roll.lacks(i, 100), dues[i]);
            Edge.due("ACT " + i + " as known on the last DAY", roll.lacks(i, 40000), dues[i]);
        }
    }

    private static void lacksWithout() {
        Edge.of("NONE, if it is no STRIKE, or not known.");
        Desk desk = asking(EASY);
        VoteRoll roll = desk.roll;
        Edge.due("no ACT at all", roll.lacks(0, 100), NONE);
        for (int sort = 0; sort <= 5; sort++) {
            roll.act(0, sort, 150, 200);
            Edge.due("SORT " + sort, roll.lacks(sort, 200), sort == STRIKE ? 0 : NONE);
            Edge.due("SORT " + sort + " not known", roll.lacks(sort, 199), NONE);
        }
        Edge.due("behind the last", roll.lacks(6, 200), NONE);
        Edge.due("-1", roll.lacks(-1, 200), NONE);
        Edge.due("the greatest", roll.lacks(Edge.GREATEST, 200), NONE);
        Edge.due("the least", roll.lacks(Edge.LEAST, 200), NONE);
        Edge.due("known on -1", roll.lacks(STRIKE, -1), NONE);
        Edge.due("known on 40000", roll.lacks(STRIKE, 40000), 0);
        Edge.due("known on 40001", roll.lacks(STRIKE, 40001), NONE);
        Desk late = FactEdges.desk(EASY);
        late.record("a,", 0, 5, 0, 60, NONE, 100, 300);
        late.roll.act(0, STRIKE, 150, 200);
        Edge.due("its RECORD is not known", late.roll.lacks(0, 299), NONE);
        Edge.due("its RECORD is known", late.roll.lacks(0, 300), 0);
    }

    private static void may() {
        Edge.of("Whether it may vote: 1, 0; NONE.");
        Desk desk = FactEdges.desk("age 0");
        Edge.due("no RECORD at all", desk.roll.may(0, 0, 0), NONE);
        desk.record("a,", 0, 5, 0, 60, NONE, 100, 200);
        VoteRoll roll = desk.roll;
        Edge.due("it may not", roll.may(0, 99, 200), 0);
        Edge.due("it may", roll.may(0, 100, 200), 1);
        Edge.due("not known", roll.may(0, 100, 199), NONE);
        Edge.due("behind the last RECORD", roll.may(1, 100, 200), NONE);
        Edge.due("RECORD -1", roll.may(-1, 100, 200), NONE);
        for (int day : new int[] {-1, 40001}) {
            Edge.due("DAY " + day, roll.may(0, day, 200), NONE);
            Edge.due("known on " + day, roll.may(0, 100, day), NONE);
        }
    }

    private static void ward() {
        Edge.of("How many PERSONS' LINES of a WARD (NONE: of all) are IN on d as known on k (what 0), STRUCK (1), may vote (2)."
                + " NONE.");
        Edge.due("a new object", new VoteRoll().ward(NONE, 0, 0, 0), 0);
        Desk desk = new Desk();
        desk.law(EASY);
        desk.record("a,b", 0, 5, 0, 0, 1, 100, 0);
        desk.record("c,d", 0, 5, 1, 49, 2, 100, 0);
        desk.record("e,f", 0, 5, 2, 999, 3, 100, 0);
        desk.record("g,h", 0, 5, 3, 999, 4, 100, 0);
        desk.record("g,h", 1, 2, 3, NONE, 4, 110, 0);
        desk.record("i,j", 0, 5, 4, 999, 5, 100, 300);
        desk.record("k,l", 0, 0, 5, 999, 6, 100, 0);
        desk.roll.act(1, STRIKE, 110, 0);
        VoteRoll roll = desk.roll;
        int[][] dues = {{NONE, 3, 1, 2}, {0, 1, 1, 1}, {1, 0, 0, 0}, {18, 0, 0, 0}, {19, 2, 0, 1}};
        for (int[] d : dues) {
            for (int what = 0; what <= 2; what++) {
                Edge.due("WARD " + d[0] + " what " + what, roll.ward(d[0], 110, 299, what), d[what + 1]);
            }
        }
        Edge.due("as known on 300", roll.ward(19, 110, 300, 0), 3);
        Edge.due("a DAY ahead of the STRIKE: IN", roll.ward(0, 109, 299, 0), 2);
        Edge.due("a DAY ahead of the STRIKE: STRUCK", roll.ward(0, 109, 299, 1), 0);
        Edge.due("a DAY ahead of the death: may vote", roll.ward(19, 109, 299, 2), 2);
        Edge.due("a DAY ahead of asking", roll.ward(NONE, 99, 299, 0), 0);
        for (int ward : new int[] {-2, 20, Edge.LEAST, Edge.GREATEST}) {
            Edge.due("WARD " + ward, roll.ward(ward, 110, 299, 0), NONE);
        }
        for (int what : new int[] {-1, 3, Edge.LEAST, Edge.GREATEST}) {
            Edge.due("what " + what, roll.ward(0, 110, 299, what), NONE);
            Edge.due("of all, what " + what, roll.ward(NONE, 110, 299, what), NONE);
        }
        for (int day : new int[] {-1, 40001}) {
            Edge.due("DAY " + day, roll.ward(0, day, 299, 0), NONE);
            Edge.due("known on " + day, roll.ward(0, 110, day, 0), NONE);
        }
    }

    private static void triedTerm() {
        Edge.of("TRIED on d as known on k: of PERSONS with a TRUTH known by k (the last told), whose LINE is IN on d: for how many the"
                + " CAUSE holds on d, of those that may vote, of those that may not; how many it leaves, likewise.");
        Desk desk = asking("age 0;notice 0 days 0;strike if silent 50");
        VoteRoll roll = desk.roll;
        Edge.due("no TRUTH", roll.tried(120, 900, 2), 0);
        roll.act(0, TRUTH_MAY, 40000, 500);
        Edge.due("a TRUTH not known by k", roll.tried(120, 499, 2), 0);
        Edge.due("a TRUTH known by k, of any DAY", roll.tried(120, 500, 2), 1);
        Edge.due("the CAUSE does not hold yet", roll.tried(150, 500, 0), 0);
        Edge.due("it leaves it", roll.tried(150, 500, 2), 1);
        Edge.due("the CAUSE holds", roll.tried(151, 500, 0), 1);
        Edge.due("it does not leave it", roll.tried(151, 500, 2), 0);
        Edge.due("the LINE is not IN yet", roll.tried(99, 500, 2), 0);
        roll.act(0, TRUTH_MAY_NOT, 0, 600);
        Edge.due("the last told, of an earlier DAY", roll.tried(151, 600, 1), 1);
        Edge.due("the one ahead of it no more", roll.tried(151, 600, 0), 0);
        Edge.due("the last told is not known by k", roll.tried(151, 599, 0), 1);
        Edge.due("it leaves one that may not", roll.tried(150, 600, 3), 1);
        roll.act(0, TRUTH_MAY, 0, 300);
        Edge.due("the last told, known earlier", roll.tried(151, 600, 0), 1);
        roll.act(0, STRIKE, 160, 0);
        Edge.due("STRUCK", roll.tried(160, 600, 0), 0);
        Edge.due("a DAY ahead of that", roll.tried(159, 600, 0), 1);
    }

    private static void tried() {
        Edge.of("TRIED: 0 the CAUSE holds of those who may vote, 1 of those who may not, 2, 3 those whom it leaves, likewise. NONE.");
        for (int what = 0; what <= 3; what++) {
            Edge.due("a new object, what " + what, new VoteRoll().tried(0, 0, what), 0);
        }
        Desk desk = new Desk();
        desk.law("age 0;strike if ward 1");
        int[] places = {50, 50, 50, 50, 0, 0, 0, 0, 0, 0};
        int[] truths = {4, 5, 5, NONE, 4, 4, 4, 5, 5, 5};
        for (int i = 0; i < places.length; i++) {
            desk.record((char) ('a' + i) + ",", 0, 5, i, places[i], i, 100, 0);
            if (truths[i] != NONE) {
                desk.roll.act(i, truths[i], 0, 0);
            }
        }
        desk.roll.act(9, TRUTH_MAY_NOT, 0, 0);
        int[] dues = {1, 2, 3, 3};
        for (int what = 0; what <= 3; what++) {
            Edge.due("what " + what, desk.roll.tried(100, 100, what), dues[what]);
        }
        for (int what : new int[] {-1, 4, Edge.LEAST, Edge.GREATEST}) {
            Edge.due("what " + what, desk.roll.tried(100, 100, what), NONE);
        }
        for (int day : new int[] {-1, 40001}) {
            Edge.due("DAY " + day, desk.roll.tried(day, 100, 0), NONE);
            Edge.due("known on " + day, desk.roll.tried(100, day, 0), NONE);
        }
    }
}
