import java.util.LinkedHashMap;
import java.util.Map;
import java.util.function.IntBinaryOperator;

/** Term I: what the numbers of a RECORD may be, and what a call is REFUSED by. */
final class NumberEdges {
    private static final int NONE = VoteRoll.NONE;

    private NumberEdges() {
    }

    static void look() {
        days();
        daysOfARecord();
        placesAndWards();
        lists();
        roomForRecords();
        fullOfLongNames();
        names();
        birthPlaceNumber();
        dayOfWhichItSpeaks();
        dayFromWhichItIsKnown();
        sorts();
        sortsThatNeedAPlace();
        refusals();
        orderOfRefusals();
    }

    /** A RECORD that all calls with DAYS can be asked about: it asks on DAY 0 and is known from then on. */
    private static Desk asker() {
        Desk desk = new Desk();
        desk.law("age 0; notice 0 days 0; strike if not dead");
        desk.record("a,b", 0, 5, 0, 60, 7, 0, 0);
        desk.roll.act(0, 2, 0, 0);
        desk.roll.wish(0);
        return desk;
    }

    private static Map<String, IntBinaryOperator> callsWithDays(Desk desk) {
        VoteRoll roll = desk.roll;
        Map<String, IntBinaryOperator> calls = new LinkedHashMap<>();
        calls.put("act", (d, k) -> roll.act(0, 0, d, k));
        calls.put("of", (d, k) -> roll.of(0, d, k, 3));
        calls.put("led", (d, k) -> roll.led(0, d, k, 1));
        calls.put("cause", (d, k) -> roll.cause(0, d, k));
        calls.put("line", (d, k) -> roll.line(0, d, k));
        calls.put("since", (d, k) -> roll.since(0, d, k));
        calls.put("may", (d, k) -> roll.may(0, d, k));
        calls.put("ward", (d, k) -> roll.ward(NONE, d, k, 0));
        calls.put("tried", (d, k) -> roll.tried(d, k, 0));
        calls.put("caseOf", (d, k) -> roll.caseOf(0, d, k));
        calls.put("plan", (d, k) -> roll.plan(0, d, k));
        calls.put("person", (d, k) -> Math.min(roll.person(0, d), roll.person(0, k)));
        calls.put("joined", (d, k) -> Math.min(roll.joined(d, 0), roll.joined(k, 0)));
        calls.put("lacks", (d, k) -> Math.min(roll.lacks(0, d), roll.lacks(0, k)));
        return calls;
    }

    private static void days() {
        Edge.of("DAYS 0 .. 40,000.");
        for (Map.Entry<String, IntBinaryOperator> call : callsWithDays(asker()).entrySet()) {
            for (int day : new int[] {0, 40000}) {
                Edge.taken(call.getKey() + " on " + day, call.getValue().applyAsInt(day, 0));
                Edge.taken(call.getKey() + " as known on " + day, call.getValue().applyAsInt(0, day));
            }
            for (int day : new int[] {-1, 40001, Edge.LEAST, Edge.GREATEST}) {
                Edge.due(call.getKey() + " on " + day, call.getValue().applyAsInt(day, 0), NONE);
                Edge.due(call.getKey() + " as known on " + day, call.getValue().applyAsInt(0, day), NONE);
            }
        }
        VoteRoll roll = new VoteRoll();
        Edge.due("vote(-1)", roll.vote(-1), -1);
        Edge.due("vote(0)", roll.vote(0), 1);
        Edge.due("vote(40000)", roll.vote(40000), 2);
        Edge.due("vote(40001)", roll.vote(40001), -1);
    }

    /** What a RECORD of LIST 0 and SORT 6 answers with one of its numbers changed. */
    private static int told(int which, int number) {
        int[] n = {0, 6, 0, 0, 0, 0, 0};
        n[which] = number;
        return new Desk().record("a,b", n[0], n[1], n[2], n[3], n[4], n[5], n[6]);
    }

    private static void limits(String what, int which, int least, int greatest) {
        Edge.due(what + " " + (least - 1), told(which, least - 1), -1);
        Edge.due(what + " " + least, told(which, least), 0);
        Edge.due(what + " " + greatest, told(which, greatest), 0);
        Edge.due(what + " " + (greatest + 1), told(which, greatest + 1), -1);
        Edge.due(what + " least of all", told(which, Edge.LEAST), -1);
        Edge.due(what + " greatest of all", told(which, Edge.GREATEST), -1);
    }

    private static void daysOfARecord() {
        Edge.of("the DAY of which it speaks, the DAY from which it is known.");
        limits("the DAY of which it speaks", 5, 0, 40000);
        limits("the DAY from which it is known", 6, 0, 40000);
    }

    private static int wardOfAsked(int place) {
        Desk desk = new Desk();
        desk.tell("a,", 5, 0, place, 0);
        return desk.roll.of(0, 0, 0, 5);
    }

    private static void placesAndWards() {
        Edge.of("PLACES 0 .. 999; the WARD of a PLACE is PLACE / 50 (0 .. 19).");
        limits("PLACE (or NONE)", 3, NONE, 999);
        int[][] wards = {{0, 0}, {49, 0}, {50, 1}, {99, 1}, {100, 2}, {949, 18}, {950, 19}, {999, 19}};
        for (int[] w : wards) {
            Edge.due("WARD of PLACE " + w[0], wardOfAsked(w[0]), w[1]);
        }
    }

    private static void lists() {
        Edge.of("LISTS 0 .. 7.");
        limits("LIST", 0, 0, 7);
    }

    private static void roomForRecords() {
        Edge.of("A RECORD (120 at most)");
        Desk desk = new Desk();
        desk.fill(119);
        Edge.due("the 120th", desk.record("a,b", 0, 6, NONE, NONE, NONE, 0, 0), 119);
        Edge.due("the 120th is there", desk.roll.person(119, 0), 119);
        Edge.due("the 121st", desk.record("a,b", 0, 6, NONE, NONE, NONE, 0, 0), -5);
        Edge.due("RECORDS then", desk.roll.count(0), 120);
        Edge.due("the 121st is not there", desk.roll.person(120, 0), NONE);
        Edge.due("nor has it a name", desk.roll.folded(120, 0, -1), NONE);
    }

    /** The longest names of the most RECORDS: none is lost or takes another one's letters. */
    private static void fullOfLongNames() {
        Edge.of("A RECORD (120 at most) is of a LIST, has a SORT, two names (a family's, a given one; 0 .. 12 letters a .. z each)");
        VoteRoll roll = new VoteRoll();
        for (int i = 0; i < 120; i++) {
            int letters = 'a' + i % 26 << 8 | 'a' + i / 26;
            roll.feed(0x61616161, 0x62626262, 0x63630000 | letters, 0x2c646464, 0x64656565);
            roll.feed(0x66660000 | letters, 0x7a202020, 0x20202020, 0x20202020, 0x20202020);
            roll.record(i % 8, 6, NONE, NONE, NONE, 0, 0);
            if (i == 7 || i == 8) {
                roll.odds(0, i, 4);
            }
        }
        Edge.due("RECORDS", roll.count(0), 120);
        for (int i : new int[] {0, 7, 8, 15, 16, 31, 32, 63, 64, 119}) {
            Edge.due("letters of the family's of " + i, roll.folded(i, 0, -1), 12);
            Edge.due("the first letter of " + i, roll.folded(i, 0, 0), 'a');
            Edge.due("the 11th letter of " + i, roll.folded(i, 0, 10), 'a' + i % 26);
            Edge.due("the 12th letter of " + i, roll.folded(i, 0, 11), 'a' + i / 26);
            Edge.due("the last letter of the given one of " + i, roll.folded(i, 1, 11), 'z');
        }
        Edge.due("0 and 26 are one letter apart in both names", roll.odds(0, 26, 4), 0);
        roll.terms(1, 1, 1, 1, 1, 0);
        Edge.due("0 and 26 AGREE by SLACK 1", roll.odds(0, 26, 4), 2);
        Edge.due("0 and 27 do not", roll.odds(0, 27, 4), 0);
        Edge.due("118 and 119 AGREE by SLACK 1", roll.odds(118, 119, 4), 2);
        Edge.due("0 and 1, whose ODDS were asked for early, AGREE by SLACK 1", roll.odds(0, 1, 4), 2);
        roll.terms(0, 1, 1, 1, 1, 0);
        Edge.due("6 and 7, whose ODDS were asked for early, do not by SLACK 0", roll.odds(6, 7, 4), 0);
        roll.feed(0x613e7820, 0x20202020, 0x20202020, 0x20202020, 0x20202020);
        roll.folds();
        Edge.due("the first letter of 0, FOLDED anew", roll.folded(0, 0, 0), 'x');
        Edge.due("the first letter of 119, FOLDED anew", roll.folded(119, 0, 0), 'x');
        Edge.due("the last letter of the given one of 7", roll.folded(7, 1, 11), 'z');
    }

    private static void names() {
        Edge.of("two names (a family's, a given one; 0 .. 12 letters a .. z each)");
        String twelve = "abcdefghijkz";
        Edge.due("no letters", new Desk().record(",", 0, 6, NONE, NONE, NONE, 0, 0), 0);
        Desk desk = new Desk();
        Edge.due("12 letters each", desk.record(twelve + "," + twelve, 0, 6, NONE, NONE, NONE, 0, 0), 0);
        Edge.due("all of the family's are kept", desk.folded(0, 0), twelve);
        Edge.due("all of the given one's are kept", desk.folded(0, 1), twelve);
        Edge.due("13 of a family's", desk.record(twelve + "a,", 0, 6, NONE, NONE, NONE, 0, 0), -6);
        Edge.due("13 of a given one", desk.record("," + twelve + "a", 0, 6, NONE, NONE, NONE, 0, 0), -6);
        for (String sign : new String[] {"`", "{", "A", "Z", "0", "\u00e4", "\u00ff"}) {
            Edge.due("the sign " + sign + " in a family's", desk.record("a" + sign + ",a", 0, 6, NONE, NONE, NONE, 0, 0), -6);
            Edge.due("the sign " + sign + " in a given one", desk.record("a,a" + sign, 0, 6, NONE, NONE, NONE, 0, 0), -6);
        }
    }

    private static void birthPlaceNumber() {
        Edge.of("a BIRTH (a DAY, or NONE), a PLACE (or NONE), a NUMBER (0 .. 9999, or NONE)");
        limits("BIRTH", 2, NONE, 40000);
        limits("PLACE", 3, NONE, 999);
        limits("NUMBER", 4, NONE, 9999);
        // NONE is no number like others: two that have none are not the same, two that have 0 are
        Desk desk = new Desk();
        desk.record(",", 0, 6, 0, 0, 0, 0, 0);
        desk.record(",", 0, 6, 0, 0, 0, 0, 0);
        desk.record(",", 0, 6, NONE, NONE, NONE, 0, 0);
        desk.record(",", 0, 6, NONE, NONE, NONE, 0, 0);
        Edge.due("three FIELDS are 0", desk.roll.odds(0, 1, 4), 3);
        Edge.due("three FIELDS are NONE", desk.roll.odds(2, 3, 4), 0);
        Edge.due("0 and NONE do not differ", desk.roll.odds(0, 2, 1), 100);
    }

    private static void dayOfWhichItSpeaks() {
        Edge.of("the DAY of which it speaks");
        Desk desk = new Desk();
        desk.record("a,", 0, 0, NONE, 60, NONE, 500, 0);
        Edge.due("HOME a DAY ahead of it", desk.roll.of(0, 499, 0, 1), NONE);
        Edge.due("HOME on it", desk.roll.of(0, 500, 0, 1), 60);
    }

    private static void dayFromWhichItIsKnown() {
        Edge.of("the DAY from which it is known.");
        Desk desk = new Desk();
        desk.record("a,", 0, 0, NONE, 60, NONE, 0, 500);
        Edge.due("its PERSON a DAY ahead of it", desk.roll.person(0, 499), NONE);
        Edge.due("its PERSON on it", desk.roll.person(0, 500), 0);
        Edge.due("HOME a DAY ahead of it", desk.roll.of(0, 0, 499, 1), NONE);
        Edge.due("HOME on it", desk.roll.of(0, 0, 500, 1), 60);
    }

    private static void sorts() {
        Edge.of("is of a LIST, has a SORT,");
        limits("SORT", 1, 0, 6);
        Edge.of("SORTS: 0 lives at the PLACE, 1 moved to it, 2 is dead, 3 is abroad, 4 lives without a door,"
                + " 5 asks to be on the roll at the PLACE, 6 born.");
        int[] home = {60, 60, NONE, NONE, 777, 60, NONE};
        for (int sort = 0; sort <= 6; sort++) {
            Desk desk = new Desk();
            desk.law("nodoor 777");
            desk.tell("a,", sort, NONE, 60, 10);
            Edge.due("HOME by SORT " + sort, desk.roll.of(0, 10, 10, 1), home[sort]);
            Edge.due("dead by SORT " + sort, desk.roll.of(0, 10, 10, 3), sort == 2 ? 1 : 0);
            Edge.due("ABROAD by SORT " + sort, desk.roll.of(0, 10, 10, 2), sort == 3 ? 10 : NONE);
            Edge.due("ASKED by SORT " + sort, desk.roll.of(0, 10, 10, 5), sort == 5 ? 1 : NONE);
        }
    }

    private static void sortsThatNeedAPlace() {
        Edge.of("(0, 1, 5 need a PLACE.)");
        for (int sort = 0; sort <= 6; sort++) {
            boolean needs = sort == 0 || sort == 1 || sort == 5;
            Edge.due("SORT " + sort + " without a PLACE", new Desk().tell("a,", sort, 0, NONE, 0), needs ? -1 : 0);
            Edge.due("SORT " + sort + " at PLACE 0", new Desk().tell("a,", sort, 0, 0, 0), 0);
        }
    }

    private static void refusals() {
        Edge.of("REFUSED by: -1 a number that can't be; -2 there is no such RECORD; -4 twice; -5 no room;"
                + " -6 a text that can't be.");
        Desk desk = new Desk();
        Edge.due("-1", desk.roll.vote(-1), -1);
        Edge.due("a number that can be", desk.roll.vote(0), 1);
        Edge.due("-2 with no RECORD", desk.roll.hide(0), -2);
        desk.tell("a,", 0, 0, 0, 0);
        Edge.due("-2 behind the last RECORD", desk.roll.hide(1), -2);
        Edge.due("-2 ahead of the first RECORD", desk.roll.hide(-1), -2);
        Edge.due("-2 of the greatest number", desk.roll.hide(Edge.GREATEST), -2);
        Edge.due("-2 of the least number", desk.roll.hide(Edge.LEAST), -2);
        Edge.due("the last RECORD", desk.roll.hide(0), 0);
        Edge.due("-4", desk.roll.hide(0), -4);
        for (int i = 1; i < 12; i++) {
            desk.roll.vote(i);
        }
        Edge.due("-5", desk.roll.vote(12), -5);
        Edge.due("-6", desk.law("?"), -6);
        Edge.due("a text that can be", desk.law("age 1"), 1);
    }

    private static Desk full() {
        Desk desk = new Desk();
        desk.fill(120);
        for (int i = 0; i < 12; i++) {
            desk.roll.vote(i);
        }
        for (int i = 0; i < 16; i++) {
            desk.roll.wish(i);
        }
        for (int i = 0; i < 200; i++) {
            desk.roll.act(0, 0, 0, 0);
        }
        desk.roll.hide(0);
        return desk;
    }

    private static void orderOfRefusals() {
        Edge.of("The first of these in that order.");
        Desk desk = full();
        VoteRoll roll = desk.roll;
        desk.type("?");
        Edge.due("record: -1 ahead of -5 and -6", roll.record(8, 6, 0, 0, 0, 0, 0), -1);
        Edge.due("record: -5 ahead of -6", roll.record(0, 6, 0, 0, 0, 0, 0), -5);
        Edge.due("act: -1 ahead of -2 and -5", roll.act(120, 6, 0, 0), -1);
        Edge.due("act: -2 ahead of -5", roll.act(120, 5, 0, 0), -2);
        Edge.due("act: -5", roll.act(119, 5, 0, 0), -5);
        Edge.due("vote: -1 ahead of -5", roll.vote(40001), -1);
        Edge.due("vote: -4 ahead of -5", roll.vote(11), -4);
        Edge.due("vote: -5", roll.vote(12), -5);
        Edge.due("wish: -2 ahead of -5", roll.wish(120), -2);
        Edge.due("wish: -4 ahead of -5", roll.wish(15), -4);
        Edge.due("wish: -5", roll.wish(16), -5);
        Edge.due("hide: -2", roll.hide(120), -2);
        Edge.due("hide: -4", roll.hide(0), -4);
        Desk roomy = new Desk();
        Edge.due("record: -6 where there is room", roomy.record("?", 0, 6, 0, 0, 0, 0, 0), -6);
        Edge.due("act: -1 ahead of -2 where there is room", roomy.roll.act(0, 0, 40001, 0), -1);
        Edge.due("act: -2 where there is room", roomy.roll.act(0, 0, 40000, 0), -2);
    }
}
