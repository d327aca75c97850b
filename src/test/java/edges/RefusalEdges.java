import java.util.LinkedHashMap;
import java.util.Map;
import java.util.function.Consumer;

/** Term I once more: a call that is REFUSED, or that answers NONE, changes nothing of what is known. */
final class RefusalEdges {
    private static final int NONE = VoteRoll.NONE;

    private RefusalEdges() {
    }

    static void look() {
        Edge.of("REFUSED by: -1 a number that can't be; -2 there is no such RECORD; -4 twice; -5 no room;"
                + " -6 a text that can't be. The first of these in that order.");
        String before = allAnswers(busy());
        for (Map.Entry<String, Consumer<Desk>> call : refusedCalls().entrySet()) {
            Desk desk = busy();
            call.getValue().accept(desk);
            Edge.due("all answers behind " + call.getKey(), allAnswers(desk), before);
        }
        // the other side: each of these is seen in the answers, if it is not refused
        for (Map.Entry<String, Consumer<Desk>> call : takenCalls().entrySet()) {
            Desk desk = busy();
            call.getValue().accept(desk);
            Edge.due("the answers are others behind " + call.getKey(), allAnswers(desk).equals(before) ? 0 : 1, 1);
        }
    }

    private static Desk busy() {
        Desk desk = new Desk();
        VoteRoll roll = desk.roll;
        desk.folds("ph>f,c>k");
        desk.law("age 50;proof 2;notice 1 days 5;quiet 10;appeal 30;nodoor 70;abroad 40;strike if moved or silent 90");
        desk.record("phil,ann", 0, 5, 10, 60, 7, 100, 100);
        desk.record("fil,ann", 1, 1, 10, 160, 7, 120, 120);
        desk.record("carl,bo", 0, 5, 20, 60, 8, 100, 100);
        desk.record("karl,bo", 1, 3, 20, NONE, 8, 130, 130);
        desk.record("dora,", 2, 4, 30, NONE, 9, 100, 100);
        roll.terms(1, 1, 20, 1, 1, 2);
        roll.field(4, 80, 20);
        roll.act(0, 0, 125, 125);
        roll.act(0, 2, 140, 140);
        roll.act(0, 3, 150, 150);
        roll.act(2, 4, 0, 0);
        roll.vote(200);
        roll.doors(3, 20, 5, 2);
        roll.chances(0, 100, 200);
        roll.chances(1, 50, 60);
        roll.chances(2, 30, 40);
        roll.chances(3, 10, 20);
        roll.costs(2, 5);
        roll.hide(0);
        roll.wish(0);
        roll.wish(2);
        roll.wish(4);
        roll.plan(8, 160, 160);
        return desk;
    }

    private static String allAnswers(Desk desk) {
        VoteRoll roll = desk.roll;
        StringBuilder text = new StringBuilder();
        for (int i = 0; i < 7; i++) {
            text.append(roll.count(i)).append(' ');
        }
        for (int record = 0; record <= 5; record++) {
            text.append('|').append(roll.folded(record, 0, -1)).append(' ').append(roll.person(record, 200));
            for (int what = 0; what <= 6; what++) {
                text.append(' ').append(roll.of(record, 145, 200, what));
            }
            text.append(' ').append(roll.of(record, 110, 200, 1)).append(' ').append(roll.line(record, 145, 200));
            text.append(' ').append(roll.line(record, 155, 200)).append(' ').append(roll.cause(record, 155, 200));
        }
        text.append('|').append(roll.odds(0, 1, 0)).append(' ').append(roll.odds(0, 1, 1)).append(' ').append(roll.odds(2, 3, 3));
        text.append('|').append(roll.joined(200, 0)).append(' ').append(roll.joined(200, 1)).append(' ').append(roll.lacks(1, 200));
        text.append('|').append(roll.ward(1, 145, 200, 0)).append(' ').append(roll.ward(1, 145, 200, 1));
        text.append('|').append(roll.tried(160, 200, 0)).append(' ').append(roll.tried(160, 200, 2));
        text.append('|').append(roll.missing(3, 0)).append(' ').append(roll.missing(3, 1)).append(' ').append(roll.missing(NONE, 2));
        for (int wish = -1; wish <= 3; wish++) {
            text.append(' ').append(roll.planned(wish)).append(' ').append(roll.caseOf(wish, 160, 200));
        }
        for (int purse = 0; purse <= 15; purse++) {
            text.append(' ').append(roll.plan(purse, 160, 200)).append(' ').append(roll.planned(NONE));
        }
        // a STRIKE a DAY ahead of the VOTE, and one behind it
        roll.act(2, 0, 185, 0);
        roll.act(2, 2, 199, 0);
        roll.act(2, 2, 201, 0);
        int acts = roll.count(4);
        return text.append('|').append(roll.lacks(acts - 2, 300)).append(roll.lacks(acts - 1, 300)).toString();
    }

    private static Map<String, Consumer<Desk>> refusedCalls() {
        Map<String, Consumer<Desk>> calls = new LinkedHashMap<>();
        calls.put("folds() with a FAULT", d -> d.folds("ph>xyz,c>,"));
        calls.put("law() with a FAULT", d -> d.law("age 9;proof 1;nodoor 5;strike if dead or"));
        calls.put("record() with a FAULT", d -> d.record("phil,ann,", 0, 5, 10, 60, 7, 100, 100));
        calls.put("record() of LIST 8", d -> d.record("phil,ann", 8, 5, 10, 60, 7, 100, 100));
        calls.put("record() known on 40001", d -> d.record("phil,ann", 0, 5, 10, 60, 7, 100, 40001));
        calls.put("field() with M 100", d -> d.roll.field(0, 100, 50));
        calls.put("field() with U 100", d -> d.roll.field(0, 50, 100));
        calls.put("field() 5", d -> d.roll.field(5, 50, 50));
        calls.put("terms() with SLACK 4", d -> d.roll.terms(4, 1000, 1, 1000, 1, 0));
        calls.put("terms() with ONCE 256", d -> d.roll.terms(0, 1000, 1, 1000, 1, 256));
        calls.put("terms() with y 1001", d -> d.roll.terms(0, 1000, 1, 1, 1001, 0));
        calls.put("hide() of none", d -> d.roll.hide(5));
        calls.put("hide() twice", d -> d.roll.hide(0));
        calls.put("act() of SORT 6", d -> d.roll.act(0, 6, 140, 140));
        calls.put("act() on 40001", d -> d.roll.act(0, 2, 40001, 140));
        calls.put("act() of none", d -> d.roll.act(5, 2, 140, 140));
        calls.put("vote() twice", d -> d.roll.vote(200));
        calls.put("vote() on 40001", d -> d.roll.vote(40001));
        calls.put("doors() of 61", d -> d.roll.doors(3, 61, 9, 9));
        calls.put("doors() with k above m", d -> d.roll.doors(3, 30, 9, 10));
        calls.put("chances() of 1001", d -> d.roll.chances(0, 900, 1001));
        calls.put("chances() of CASE 4", d -> d.roll.chances(4, 900, 900));
        calls.put("costs() of 1001", d -> d.roll.costs(0, 1001));
        calls.put("wish() twice", d -> d.roll.wish(0));
        calls.put("wish() of none", d -> d.roll.wish(5));
        calls.put("plan() by a purse of 10001", d -> d.roll.plan(10001, 160, 160));
        calls.put("plan() on 40001", d -> d.roll.plan(0, 40001, 160));
        calls.put("plan() as known on -1", d -> d.roll.plan(0, 160, -1));
        calls.put("end() below 0", d -> d.roll.end(-1));
        calls.put("other answers", d -> allButActs(d.roll));
        return calls;
    }

    private static void allButActs(VoteRoll roll) {
        roll.ward(NONE, 300, 150, 0);
        roll.tried(300, 110, 1);
        roll.line(0, 300, 120);
        roll.person(3, 130);
        roll.joined(0, 0);
        roll.lacks(1, 140);
        roll.caseOf(2, 300, 110);
        roll.luck(30, 3, 20, 2, 0);
        roll.missing(3, 1);
        roll.odds(4, 0, 2);
        roll.feed(-1, -1, -1, -1, -1);
        roll.end(3);
    }

    private static Map<String, Consumer<Desk>> takenCalls() {
        Map<String, Consumer<Desk>> calls = new LinkedHashMap<>();
        calls.put("folds()", d -> d.folds("ph>xyz,c>"));
        calls.put("law()", d -> d.law("age 9;proof 1;nodoor 5;strike if dead"));
        calls.put("record()", d -> d.record("phil,ann", 0, 5, 10, 60, 7, 100, 100));
        calls.put("field()", d -> d.roll.field(0, 99, 50));
        calls.put("terms()", d -> d.roll.terms(0, 1000, 1, 1000, 1, 255));
        calls.put("hide()", d -> d.roll.hide(1));
        calls.put("act()", d -> d.roll.act(0, 2, 152, 140));
        calls.put("vote()", d -> d.roll.vote(202));
        calls.put("doors()", d -> d.roll.doors(3, 60, 9, 9));
        calls.put("chances()", d -> d.roll.chances(0, 900, 1000));
        calls.put("costs()", d -> d.roll.costs(0, 1000));
        calls.put("wish()", d -> d.roll.wish(1));
        calls.put("clear()", d -> d.roll.clear());
        calls.put("plan()", d -> d.roll.plan(0, 160, 160));
        return calls;
    }
}
