/** The object's 512 calls, the constant, promises 1, 36, 37. */
final class CallEdges {
    private static final int NONE = VoteRoll.NONE;
    private static final int BLANKS = 0x20202020;

    private CallEdges() {
    }

    static void look() {
        calls();
        constant();
        newObject();
        count();
        status();
        statusOfOthers();
    }

    private static void calls() {
        Edge.of("An object is used for at most 512 calls after it has been made; what later calls answer is free.");
        VoteRoll roll = new VoteRoll();
        // 2 calls a RECORD, 1 an ACT: 240 and 200, and 72 others to the 512th
        for (int i = 0; i < 120; i++) {
            roll.feed(0x612c2020, BLANKS, BLANKS, BLANKS, BLANKS);
            roll.record(i % 8, i % 7, i, i, i, i, i);
        }
        for (int i = 0; i < 200; i++) {
            roll.act(i % 120, i % 6, 200 + i, i);
        }
        for (int i = 0; i < 70; i++) {
            roll.odds(i, i + 1, 0);
        }
        Edge.due("the 511th call", roll.count(0), 120);
        Edge.due("the 512th call", roll.count(4), 200);
        for (int i = 0; i < 1000; i++) {
            roll.ward(NONE, i, i, 0);
        }
        Edge.taken("later calls end and throw nothing", 0);
    }

    private static void constant() {
        Edge.of("The constants: `NONE = -1`: There is none.");
        Edge.due("NONE", VoteRoll.NONE, -1);
        Edge.due("a call that finds none", new VoteRoll().person(0, 0), -1);
    }

    private static void newObject() {
        Edge.of("No RECORDS, FOLDS, LAW.");
        VoteRoll roll = new VoteRoll();
        for (int what = 0; what <= 7; what++) {
            Edge.due("count(" + what + ")", roll.count(what), 0);
        }
        Edge.due("fault()", roll.fault(), NONE);
        Edge.due("status()", roll.status(), 0);
        Edge.due("person(0, 0)", roll.person(0, 0), NONE);
        Edge.due("hide(0)", roll.hide(0), -2);
        Edge.due("planned(NONE)", roll.planned(NONE), NONE);
        Edge.due("missing(NONE, 2)", roll.missing(NONE, 2), NONE);
        Desk busy = new Desk();
        busy.folds("a>b");
        busy.law("age 1;strike if young");
        busy.tell("a,", 5, 0, 60, 0);
        busy.roll.doors(0, 5, 5, 5);
        VoteRoll other = new VoteRoll();
        Edge.due("another object's RECORDS are its own", other.count(0), 0);
        Edge.due("another object's FOLDS are its own", other.count(1), 0);
        Edge.due("another object's LAW is its own", other.count(2), 0);
        Edge.due("another object's DOORS are its own", other.missing(0, 2), NONE);
    }

    private static void count() {
        Edge.of("0 RECORDS, 1 FOLDS, 2 CLAUSES, 3 FACTS of the CAUSE, 4 ACTS, 5 VOTES, 6 WISHES, 7 bytes of the TAPE. NONE for"
                + " others.");
        Desk desk = new Desk();
        desk.fill(3);
        desk.folds("a>b,c>d,e>f,g>h");
        desk.law("age 1;age 1;age 1;age 1;strike if dead or dead or dead or not dead or (dead and dead)");
        for (int i = 0; i < 7; i++) {
            desk.roll.act(0, 0, 0, 0);
        }
        for (int i = 0; i < 8; i++) {
            desk.roll.vote(i);
        }
        desk.roll.wish(0);
        desk.roll.wish(2);
        desk.type("123456789");
        int[] dues = {3, 4, 5, 6, 7, 8, 2, 9};
        for (int what = 0; what <= 7; what++) {
            Edge.due("count(" + what + ")", desk.roll.count(what), dues[what]);
        }
        for (int what : new int[] {-1, 8, Edge.LEAST, Edge.GREATEST}) {
            Edge.due("count(" + what + ")", desk.roll.count(what), NONE);
        }
        Desk full = new Desk();
        full.fill(120);
        full.folds("a>b" + ",a>b".repeat(15));
        full.law("age 1;".repeat(19) + "age 1");
        for (int i = 0; i < 16; i++) {
            full.roll.vote(i);
            full.roll.wish(i);
        }
        for (int i = 0; i < 20; i++) {
            full.roll.feed(0, 0, 0, 0, 0);
        }
        int[] most = {120, 16, 20, 0, 0, 12, 16, 400};
        for (int what = 0; what <= 7; what++) {
            Edge.due("count(" + what + ") of a full one", full.roll.count(what), most[what]);
        }
    }

    private static void status() {
        Edge.of("What the latest call of folds, law, record, field, terms, hide, act, vote, doors, chances, costs, wish was REFUSED"
                + " by; 0 if it was not, or ahead of any.");
        Desk desk = new Desk();
        VoteRoll roll = desk.roll;
        Edge.due("ahead of any", roll.status(), 0);
        Runnable[] refused = {() -> desk.folds("?"), () -> desk.law("?"), () -> desk.record("?", 0, 6, NONE, NONE, NONE, 0, 0),
            () -> roll.record(8, 6, NONE, NONE, NONE, 0, 0), () -> roll.field(5, 1, 1), () -> roll.terms(4, 1, 1, 1, 1, 0),
            () -> roll.hide(99), () -> roll.hide(0), () -> roll.act(0, 6, 0, 0), () -> roll.act(99, 0, 0, 0),
            () -> roll.vote(40001), () -> roll.vote(0), () -> roll.doors(20, 1, 0, 0), () -> roll.chances(4, 0, 0),
            () -> roll.costs(1001, 0), () -> roll.wish(99), () -> roll.wish(0)};
        int[] by = {-6, -6, -6, -1, -1, -1, -2, -4, -1, -2, -1, -4, -1, -1, -1, -2, -4};
        Runnable[] taken = {() -> desk.folds("a>b"), () -> desk.law("age 1"),
            () -> desk.record("b,", 0, 6, NONE, NONE, NONE, 0, 0), () -> roll.field(4, 1, 1), () -> roll.terms(3, 1, 1, 1, 1, 0),
            () -> roll.hide(1), () -> roll.act(0, 5, 0, 0), () -> roll.vote(40000), () -> roll.doors(19, 1, 0, 0),
            () -> roll.chances(3, 0, 0), () -> roll.costs(1000, 0), () -> roll.wish(1)};
        desk.tell("a,", 6, NONE, NONE, 0);
        roll.hide(0);
        roll.vote(0);
        roll.wish(0);
        for (int i = 0; i < refused.length; i++) {
            roll.field(0, 50, 50);
            refused[i].run();
            Edge.due("refused " + i, roll.status(), by[i]);
        }
        for (int i = 0; i < taken.length; i++) {
            roll.field(5, 50, 50);
            taken[i].run();
            Edge.due("taken " + i, roll.status(), 0);
        }
        for (int i = 1; i <= 12; i++) {
            roll.vote(i);
        }
        Edge.due("no room", roll.status(), -5);
    }

    private static void statusOfOthers() {
        Edge.of("0 if it was not, or ahead of any.");
        Desk desk = new Desk();
        VoteRoll roll = desk.roll;
        desk.tell("a,", 5, 0, 60, 0);
        roll.hide(7);
        Runnable[] others = {() -> roll.feed(0, 0, 0, 0, 0), () -> roll.end(99), () -> roll.end(0), roll::fault,
            () -> roll.folded(9, 0, 0), () -> roll.odds(0, 0, 0), () -> roll.person(9, 0), () -> roll.joined(0, 9),
            () -> roll.of(9, 0, 0, 0), () -> roll.led(9, 0, 0, 0), () -> roll.cause(9, 0, 0), () -> roll.line(9, 0, 0),
            () -> roll.since(9, 0, 0), () -> roll.lacks(9, 0), () -> roll.may(9, 0, 0), () -> roll.ward(99, 0, 0, 0),
            () -> roll.tried(0, 0, 9), () -> roll.missing(99, 0), () -> roll.luck(99, 0, 0, 0, 0), roll::clear,
            () -> roll.caseOf(9, 0, 0), () -> roll.plan(-1, 0, 0), () -> roll.plan(0, 0, 0), () -> roll.planned(9),
            () -> roll.count(9), roll::status};
        for (int i = 0; i < others.length; i++) {
            others[i].run();
            Edge.due("another call, " + i + ", leaves it", roll.status(), -2);
        }
        roll.wish(0);
        roll.plan(-1, 0, 0);
        roll.end(-1);
        Edge.due("and leaves 0", roll.status(), 0);
    }
}
