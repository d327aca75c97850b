/** Promises 14, 15, 16, 19: what is known of a PERSON, the RECORDS behind it, hidden PLACES, the CAUSE. */
public final class FactsTest {
    public static void main(String[] args) {
        born();
        homeAndAbroad();
        noDoor();
        deadAndHeard();
        asked();
        wrong();
        hide();
        causeFacts();
        causeJoints();
        Desk.finish();
    }

    /** One person: all records bear one name and PRIOR is high. */
    private static Desk desk() {
        Desk desk = new Desk();
        desk.roll.terms(0, 1000, 1, 1, 1, 0);
        return desk;
    }

    private static void born() {
        Desk desk = desk();
        desk.tell("a,", 6, -1, -1, 10);
        Desk.due("14: BORN without", desk.roll.of(0, 10, 40000, 0), -1);
        desk.tell("a,", 6, 7, -1, 300);
        Desk.due("14: BORN of any DAY", desk.roll.of(0, 10, 40000, 0), 7);
        desk.tell("a,", 6, 5, -1, 20);
        Desk.due("14: of alike ones the lowest", desk.roll.of(0, 10, 40000, 0), 5);
        Desk.due("14: as known", desk.roll.of(0, 10, 19, 0), -1);
        desk.tell("a,", 6, 7, -1, 30);
        Desk.due("14: the most", desk.roll.of(0, 10, 40000, 0), 7);
        Desk.due("14: as known on 30", desk.roll.of(0, 10, 30, 0), 5);
        Desk.due("14: RECORDS", desk.roll.of(0, 0, 40000, 6), 4);
        Desk.due("14: RECORDS known", desk.roll.of(0, 0, 20, 6), 2);
        desk.tell("a,", 6, 0, -1, 30);
        desk.tell("a,", 6, 0, -1, 30);
        Desk.due("14: DAY 0 is the lowest", desk.roll.of(0, 10, 40000, 0), 0);
    }

    private static void homeAndAbroad() {
        Desk desk = desk();
        VoteRoll roll = desk.roll;
        desk.tell("a,", 0, -1, 60, 100);
        desk.tell("a,", 1, -1, 70, 200);
        desk.tell("a,", 3, -1, 999, 200);
        desk.tell("a,", 1, -1, 80, 150);
        desk.tell("a,", 2, -1, 90, 300);
        desk.tell("a,", 6, -1, 95, 310);
        Desk.due("14: no HOME yet", roll.of(0, 99, 400, 1), -1);
        Desk.due("15: no HOME yet", roll.led(0, 99, 400, 1), -1);
        Desk.due("14: HOME", roll.of(0, 100, 400, 1), 60);
        Desk.due("15: HOME", roll.led(0, 100, 400, 1), 0);
        Desk.due("14: HOME by DAYS, not as told", roll.of(0, 160, 400, 1), 80);
        Desk.due("15: HOME by DAYS, not as told", roll.led(0, 160, 400, 1), 3);
        Desk.due("14: HOME is not where it died or was born", roll.of(0, 400, 400, 1), 70);
        Desk.due("14: ABROAD told behind HOME of that DAY", roll.of(0, 400, 400, 2), 200);
        Desk.due("15: ABROAD", roll.led(0, 400, 400, 2), 2);
        Desk.due("14: not ABROAD yet", roll.of(0, 199, 400, 2), -1);
        desk.record("a,", 0, 0, -1, 61, -1, 200, 500);
        Desk.due("14: one of that DAY told behind it ends it", roll.of(0, 400, 500, 2), -1);
        Desk.due("15: one of that DAY told behind it ends it", roll.led(0, 400, 500, 2), -1);
        Desk.due("14: but not as known ahead", roll.of(0, 400, 499, 2), 200);
        desk.tell("a,", 3, -1, -1, 390);
        desk.tell("a,", 3, -1, -1, 395);
        Desk.due("14: ABROAD since the last one", roll.of(0, 400, 500, 2), 395);
        Desk.due("15: the last one", roll.led(0, 400, 500, 2), 8);
        desk.tell("a,", 2, -1, -1, 400);
        Desk.due("14: one that died does not end it", roll.of(0, 400, 500, 2), 395);
        desk.tell("a,", 4, -1, -1, 400);
        Desk.due("14: one without a door ends it", roll.of(0, 400, 500, 2), -1);
        desk.tell("a,", 3, -1, -1, 401);
        desk.tell("a,", 5, -1, 3, 402);
        Desk.due("14: one that asks ends it", roll.of(0, 402, 500, 2), -1);
        Desk.due("14: and is HOME", roll.of(0, 402, 500, 1), 3);
    }

    private static void noDoor() {
        Desk desk = desk();
        VoteRoll roll = desk.roll;
        desk.tell("a,", 0, -1, 60, 10);
        desk.tell("a,", 4, -1, 333, 20);
        Desk.due("14: without a door the LAW names no PLACE", roll.of(0, 20, 20, 1), -1);
        Desk.due("15: but the RECORD made it", roll.led(0, 20, 20, 1), 1);
        desk.law("nodoor 0");
        Desk.due("14: the LAW's PLACE", roll.of(0, 20, 20, 1), 0);
        desk.law("nodoor 777; nodoor 778");
        Desk.due("14: the last one", roll.of(0, 20, 20, 1), 778);
        desk.law("");
        Desk.due("14: none again", roll.of(0, 20, 20, 1), -1);
    }

    private static void deadAndHeard() {
        Desk desk = desk();
        VoteRoll roll = desk.roll;
        desk.record("a,", 2, 2, -1, -1, -1, 10, 10);
        desk.record("a,", 2, 2, -1, -1, -1, 12, 12);
        Desk.due("14: DEAD by one LIST", roll.of(0, 10, 20, 3), 1);
        Desk.due("14: not DEAD yet", roll.of(0, 9, 20, 3), 0);
        Desk.due("15: the last of SORT 2", roll.led(0, 20, 20, 3), 1);
        Desk.due("15: none yet", roll.led(0, 9, 20, 3), -1);
        desk.law("proof 2");
        Desk.due("14: two of one LIST are not two", roll.of(0, 20, 20, 3), 0);
        Desk.due("15: told though not DEAD", roll.led(0, 20, 20, 3), 1);
        desk.record("a,", 3, 2, -1, -1, -1, 11, 11);
        Desk.due("14: DEAD by two LISTS", roll.of(0, 11, 20, 3), 1);
        Desk.due("14: not as known ahead", roll.of(0, 20, 10, 3), 0);
        Desk.due("14: HEARD without", roll.of(0, 20, 20, 4), -1);
        int[] heard = {1, 1, 0, 1, 1, 1, 0};
        for (int sort = 0; sort <= 6; sort++) {
            int before = roll.of(0, 100 + sort, 200, 4);
            desk.tell("a,", sort, -1, 5, 100 + sort);
            Desk.due("14: HEARD by SORT " + sort, roll.of(0, 100 + sort, 200, 4), heard[sort] == 1 ? 100 + sort : before);
        }
        roll.act(0, 1, 103, 150);
        Desk.due("14: an earlier ANSWER", roll.of(0, 110, 200, 4), 105);
        roll.act(0, 1, 109, 150);
        Desk.due("14: a later ANSWER", roll.of(0, 110, 200, 4), 109);
        Desk.due("14: on its DAY", roll.of(0, 109, 200, 4), 109);
        Desk.due("14: not known yet", roll.of(0, 110, 149, 4), 105);
        Desk.due("14: not given yet", roll.of(0, 108, 200, 4), 105);
        roll.act(0, 0, 110, 150);
        roll.act(0, 3, 110, 150);
        Desk.due("14: other ACTS are not heard", roll.of(0, 110, 200, 4), 109);
        Desk.due("14: an ANSWER alone", silentAnswer(), 5);
    }

    private static int silentAnswer() {
        Desk desk = desk();
        desk.tell("a,", 6, -1, -1, 0);
        desk.roll.act(0, 1, 5, 5);
        desk.roll.act(0, 1, 4, 5);
        return desk.roll.of(0, 9, 9, 4);
    }

    private static void asked() {
        Desk desk = desk();
        VoteRoll roll = desk.roll;
        desk.tell("a,", 5, -1, 49, 10);
        desk.tell("a,", 5, -1, 999, 30);
        desk.tell("a,", 0, -1, 50, 40);
        Desk.due("14: not ASKED yet", roll.of(0, 9, 99, 5), -1);
        Desk.due("15: not ASKED yet", roll.led(0, 9, 99, 5), -1);
        Desk.due("14: WARD of ASKED", roll.of(0, 29, 99, 5), 0);
        Desk.due("14: WARD of the last", roll.of(0, 99, 99, 5), 19);
        Desk.due("15: the last", roll.led(0, 99, 99, 5), 1);
    }

    private static void wrong() {
        Desk desk = desk();
        VoteRoll roll = desk.roll;
        desk.record("a,", 0, 5, 1, 49, -1, 10, 20);
        int[][] wrong = {{1, 10, 20}, {-1, 10, 20}, {0, -1, 20}, {0, 40001, 20}, {0, 10, -1}, {0, 10, 40001}, {0, 10, 19}};
        for (int[] w : wrong) {
            String at = java.util.Arrays.toString(w);
            for (int what = 0; what <= 6; what++) {
                Desk.due("14: of " + at + " " + what, roll.of(w[0], w[1], w[2], what), -1);
            }
            for (int what = 1; what <= 5; what++) {
                Desk.due("15: led " + at + " " + what, roll.led(w[0], w[1], w[2], what), -1);
            }
            Desk.due("19: cause " + at, roll.cause(w[0], w[1], w[2]), -1);
        }
        Desk.due("14: what 7", roll.of(0, 10, 20, 7), -1);
        Desk.due("14: what -1", roll.of(0, 10, 20, -1), -1);
        for (int what : new int[] {-1, 0, 4, 6, 7}) {
            Desk.due("15: what " + what, roll.led(0, 10, 20, what), -1);
        }
    }

    private static void hide() {
        Desk desk = desk();
        VoteRoll roll = desk.roll;
        desk.tell("a,", 5, -1, 60, 10);
        desk.tell("a,", 0, -1, 120, 20);
        desk.tell("a,", 4, -1, -1, 30);
        desk.law("strike if moved");
        Desk.due("16: hide(1)", roll.hide(1), 0);
        Desk.due("16: HOME from another", roll.of(0, 19, 99, 1), 60);
        Desk.due("16: HOME from it", roll.of(0, 20, 99, 1), -2);
        Desk.due("16: all else goes by it", roll.cause(0, 20, 99), 1);
        Desk.due("16: it is led to as ever", roll.led(0, 20, 99, 1), 1);
        Desk.due("16: no HOME", roll.of(0, 30, 99, 1), -1);
        Desk.due("16: hide(0)", roll.hide(0), 0);
        Desk.due("16: the WARD is told", roll.of(0, 19, 99, 5), 1);
        Desk.due("16: twice", roll.hide(1), -4);
        Desk.due("16: status()", roll.status(), -4);
        Desk.due("16: no such RECORD", roll.hide(3), -2);
        Desk.due("16: no such RECORD", roll.hide(-1), -2);
        Desk.due("16: status()", roll.status(), -2);
        Desk.due("16: hide(2)", roll.hide(2), 0);
        Desk.due("16: status()", roll.status(), 0);
        Desk.due("16: nothing to hide without a HOME", roll.of(0, 30, 99, 1), -1);
    }

    private static int holds(Desk desk, String cause, int day) {
        desk.law("age 18;abroad 10;proof 2;strike if " + cause);
        return desk.roll.cause(0, day, 40000);
    }

    private static void causeFacts() {
        Desk desk = desk();
        desk.tell("a,", 6, 100, -1, 0);
        desk.law("");
        Desk.due("19: no CAUSE at all", desk.roll.cause(0, 5, 5), 0);
        Desk.due("19: nohome", holds(desk, "nohome", 110), 1);
        Desk.due("19: moved without HOME", holds(desk, "moved", 110), 0);
        Desk.due("19: ward without ASKED", holds(desk, "ward 0", 110), 0);
        Desk.due("19: silent without HEARD", holds(desk, "silent 40000", 110), 1);
        Desk.due("19: young by a day", holds(desk, "young", 117), 1);
        Desk.due("19: just of age", holds(desk, "young", 118), 0);
        Desk.due("19: not away", holds(desk, "away", 118), 0);
        desk.tell("a,", 0, -1, 999, 119);
        Desk.due("19: moved without ASKED", holds(desk, "moved", 119), 0);
        desk.tell("a,", 5, -1, 49, 120);
        Desk.due("19: HOME where it ASKED", holds(desk, "moved", 120), 0);
        Desk.due("19: ward 0", holds(desk, "ward 0", 120), 1);
        Desk.due("19: ward 1", holds(desk, "ward 1", 120), 0);
        desk.tell("a,", 1, -1, 0, 121);
        Desk.due("19: moved within the WARD", holds(desk, "moved", 121), 0);
        desk.tell("a,", 1, -1, 50, 122);
        Desk.due("19: moved", holds(desk, "moved", 122), 1);
        Desk.due("19: not double", holds(desk, "double", 129), 0);
        desk.tell("a,", 5, -1, 0, 125);
        Desk.due("19: asking twice in one WARD", holds(desk, "double", 129), 0);
        desk.tell("a,", 5, -1, 50, 126);
        Desk.due("19: double", holds(desk, "double", 126), 1);
        Desk.due("19: not double yet", holds(desk, "double", 125), 0);
        desk.tell("a,", 5, -1, 0, 127);
        Desk.due("19: double it stays", holds(desk, "double", 127), 1);
        desk.tell("a,", 3, -1, -1, 130);
        Desk.due("19: ABROAD ten DAYS", holds(desk, "away", 140), 0);
        desk.law("strike if away");
        Desk.due("19: ABROAD 5000 DAYS", desk.roll.cause(0, 5130, 5130), 0);
        Desk.due("19: away without", desk.roll.cause(0, 5131, 5131), 1);
        desk.law("strike if young");
        Desk.due("19: age 6570 without", desk.roll.cause(0, 6669, 6669), 1);
        Desk.due("19: age 6570 without", desk.roll.cause(0, 6670, 6670), 0);
        Desk.due("19: away", holds(desk, "away", 141), 1);
        Desk.due("19: silent by 20", holds(desk, "silent 20", 150), 0);
        Desk.due("19: silent by 20 on the next", holds(desk, "silent 20", 151), 1);
        desk.record("a,", 1, 2, -1, -1, -1, 160, 160);
        Desk.due("19: not dead by one", holds(desk, "dead", 161), 0);
        desk.record("a,", 2, 2, -1, -1, -1, 161, 161);
        Desk.due("19: dead", holds(desk, "dead", 161), 1);
        desk.law("nodoor 50; strike if moved");
        desk.tell("a,", 4, -1, -1, 170);
        Desk.due("19: without a door in another WARD", desk.roll.cause(0, 170, 40000), 1);
        Desk young = desk();
        young.tell("a,", 6, -1, -1, 0);
        Desk.due("19: young without BORN", holds(young, "young", 40000), 1);
        Desk.due("19: so even by age 0", young.law("age 0;strike if young") + 10 * young.roll.cause(0, 0, 0), 12);
    }

    private static void causeJoints() {
        Desk desk = desk();
        desk.tell("a,", 6, -1, -1, 0);
        // nohome holds, dead does not
        String[][] cases = {{"nohome and nohome", "1"}, {"nohome and dead", "0"}, {"dead or nohome", "1"},
            {"dead or dead", "0"}, {"not dead", "1"}, {"not not nohome", "1"}, {"not nohome", "0"},
            {"nohome or nohome and dead", "1"}, {"dead and nohome or nohome", "1"}, {"nohome or dead and dead or dead", "1"},
            {"dead and (nohome or nohome)", "0"}, {"not dead and nohome", "1"}, {"not (dead or nohome)", "0"},
            {"not (dead and nohome)", "1"}, {"not nohome or nohome", "1"}, {"(nohome or dead) and not (dead and nohome)", "1"},
            {"dead or dead and nohome or dead", "0"}, {"not (not (not dead))", "1"}, {"dead and dead or nohome and nohome", "1"},
            {"((((((((((nohome))))))))))", "1"}, {"nohome and (dead or (nohome and (dead or not dead)))", "1"}};
        for (String[] c : cases) {
            Desk.due("19: " + c[0], holds(desk, c[0], 0), Integer.parseInt(c[1]));
        }
    }
}
