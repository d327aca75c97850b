/** Terms III and IV, promises 14 to 16 and 19: what is known of a PERSON, what led to it, what is hidden, the CAUSE. */
final class FactEdges {
    private static final int NONE = VoteRoll.NONE;

    private FactEdges() {
    }

    static void look() {
        recordsNotBehind();
        born();
        home();
        abroad();
        dead();
        heard();
        asked();
        factDead();
        factMoved();
        factNohome();
        factDouble();
        factYoung();
        factAway();
        factSilent();
        factWard();
        of();
        ofWithout();
        led();
        hide();
        hideRefused();
        cause();
    }

    /** All RECORDS of one family's name are one PERSON. */
    static Desk desk(String law) {
        Desk desk = new Desk();
        desk.roll.terms(0, 1000, 1, 1, 1, 0);
        desk.law(law);
        return desk;
    }

    private static int holds(Desk desk, String law, int day) {
        desk.law(law);
        return desk.roll.cause(0, day, 40000);
    }

    private static void recordsNotBehind() {
        Edge.of("Of a PERSON on a DAY d as known on k, by its RECORDS of DAYS not behind d (in order of their DAYS, of alike ones"
                + " as they were told):");
        Desk desk = desk("");
        desk.record("a,", 0, 0, NONE, 1, NONE, 30, 0);
        desk.record("a,", 0, 0, NONE, 2, NONE, 10, 0);
        desk.record("a,", 0, 0, NONE, 3, NONE, 20, 0);
        desk.record("a,", 0, 0, NONE, 4, NONE, 20, 50);
        desk.record("a,", 0, 0, NONE, 5, NONE, 20, 40);
        int[][] homes = {{9, NONE}, {10, 2}, {19, 2}, {20, 5}, {29, 5}, {30, 1}, {40000, 1}};
        for (int[] h : homes) {
            Edge.due("HOME on " + h[0], desk.roll.of(0, h[0], 40000, 1), h[1]);
        }
        Edge.due("of alike ones as they were told, by those known", desk.roll.of(0, 20, 39, 1), 3);
        Edge.due("of alike ones as they were told, not as they came to be known", desk.roll.of(0, 20, 50, 1), 5);
    }

    private static int bornOf(int... births) {
        Desk desk = desk("");
        for (int birth : births) {
            desk.record("a,", 0, 6, birth, NONE, NONE, 40000, 0);
        }
        return desk.roll.of(0, 0, 0, 0);
    }

    private static void born() {
        Edge.of("BORN: the BIRTH that most of them have (of alike ones the lowest; of all its RECORDS known, of any DAY;"
                + " NONE without).");
        Edge.due("one", bornOf(7), 7);
        Edge.due("the most", bornOf(3, 7, 7), 7);
        Edge.due("the most, first", bornOf(7, 7, 3), 7);
        Edge.due("one and one: the lowest", bornOf(7, 3), 3);
        Edge.due("one and one: the lowest, first", bornOf(3, 7), 3);
        Edge.due("two and two: the lowest", bornOf(7, 3, 3, 7), 3);
        Edge.due("three and two", bornOf(7, 3, 3, 7, 7), 7);
        Edge.due("DAY 0 is one", bornOf(0, 7), 0);
        Edge.due("NONE is none, though most have it", bornOf(NONE, NONE, NONE, 7), 7);
        Edge.due("NONE without", bornOf(NONE, NONE), NONE);
        Desk desk = desk("");
        desk.record("a,", 0, 6, 9, NONE, NONE, 40000, 10);
        desk.record("a,", 0, 6, 8, NONE, NONE, 40000, 11);
        Edge.due("of any DAY: known on 10", desk.roll.of(0, 0, 10, 0), 9);
        Edge.due("of any DAY: known on 11", desk.roll.of(0, 0, 11, 0), 8);
    }

    private static int homeBy(String law, int... sorts) {
        Desk desk = desk(law);
        for (int i = 0; i < sorts.length; i++) {
            desk.tell("a,", sorts[i], NONE, 100 + i, i);
        }
        return desk.roll.of(0, 100, 100, 1);
    }

    private static void home() {
        Edge.of("HOME: the last one of SORT 0, 1, 4, 5: its PLACE, of SORT 4 the PLACE that the LAW names for those without a"
                + " door (NONE, if none).");
        for (int sort : new int[] {0, 1, 5}) {
            Edge.due("SORT " + sort + " behind one", homeBy("", 0, sort), 101);
        }
        for (int sort : new int[] {2, 3, 6}) {
            Edge.due("SORT " + sort + " behind one", homeBy("", 0, sort), 100);
            Edge.due("SORT " + sort + " alone", homeBy("", sort), NONE);
        }
        Edge.due("SORT 4, a LAW that names none", homeBy("", 0, 4), NONE);
        Edge.due("SORT 4, PLACE 0", homeBy("nodoor 0", 0, 4), 0);
        Edge.due("SORT 4, PLACE 999", homeBy("nodoor 999", 0, 4), 999);
        Edge.due("SORT 0 behind SORT 4", homeBy("nodoor 999", 4, 0), 101);
        Edge.due("no RECORD of them", homeBy("nodoor 999", 6), NONE);
    }

    private static int abroadBy(int lastSort, int lastDay) {
        Desk desk = desk("");
        desk.tell("a,", 0, NONE, 5, 0);
        desk.tell("a,", 3, NONE, NONE, 50);
        desk.tell("a,", lastSort, NONE, 5, lastDay);
        return desk.roll.of(0, 100, 100, 2);
    }

    private static void abroad() {
        Edge.of("ABROAD since: the DAY of the last one of SORT 3, if no one of SORT 0, 1, 4, 5 is behind it.");
        for (int sort : new int[] {0, 1, 4, 5}) {
            Edge.due("SORT " + sort + " a DAY behind", abroadBy(sort, 51), NONE);
            Edge.due("SORT " + sort + " of that DAY, told behind", abroadBy(sort, 50), NONE);
            Edge.due("SORT " + sort + " a DAY ahead", abroadBy(sort, 49), 50);
        }
        for (int sort : new int[] {2, 6}) {
            Edge.due("SORT " + sort + " a DAY behind", abroadBy(sort, 51), 50);
        }
        Edge.due("SORT 3 a DAY behind: the last one", abroadBy(3, 51), 51);
        Edge.due("SORT 3 a DAY ahead: the last one", abroadBy(3, 49), 50);
        Desk desk = desk("");
        desk.tell("a,", 0, NONE, 5, 50);
        desk.tell("a,", 3, NONE, NONE, 50);
        Edge.due("SORT 0 of that DAY, told ahead", desk.roll.of(0, 50, 50, 2), 50);
        Edge.due("a DAY ahead", desk.roll.of(0, 49, 50, 2), NONE);
        Desk zero = desk("");
        zero.tell("a,", 3, NONE, NONE, 0);
        Edge.due("since DAY 0", zero.roll.of(0, 0, 0, 2), 0);
    }

    /** So many LISTS have one of SORT 2; LIST 0 has two. */
    private static int deadBy(int proof, int lists) {
        Desk desk = desk("proof " + proof);
        desk.record("a,", 0, 6, NONE, NONE, NONE, 0, 0);
        for (int list = 0; list < lists; list++) {
            desk.record("a,", list, 2, NONE, NONE, NONE, 10, 0);
            if (list == 0) {
                desk.record("a,", 0, 2, NONE, NONE, NONE, 10, 0);
            }
        }
        return desk.roll.of(0, 10, 0, 3);
    }

    private static void dead() {
        Edge.of("DEAD, if as many LISTS as the LAW wants have one of SORT 2.");
        for (int proof = 1; proof <= 8; proof++) {
            Edge.due("proof " + proof + ", one LIST less", deadBy(proof, proof - 1), 0);
            Edge.due("proof " + proof + ", so many LISTS", deadBy(proof, proof), 1);
            Edge.due("proof " + proof + ", all LISTS", deadBy(proof, 8), 1);
        }
        Desk desk = desk("proof 2");
        desk.record("a,", 0, 2, NONE, NONE, NONE, 10, 0);
        desk.record("a,", 7, 2, NONE, NONE, NONE, 20, 30);
        Edge.due("a DAY ahead of the second", desk.roll.of(0, 19, 30, 3), 0);
        Edge.due("on the DAY of the second", desk.roll.of(0, 20, 30, 3), 1);
        Edge.due("the second is not known yet", desk.roll.of(0, 20, 29, 3), 0);
    }

    private static void heard() {
        Edge.of("HEARD: the DAY of the last one of SORT 0, 1, 3, 4, 5, or of the last ANSWER (VI), whichever is later"
                + " (NONE without).");
        for (int sort = 0; sort <= 6; sort++) {
            Desk desk = desk("");
            desk.tell("a,", sort, NONE, 5, 50);
            boolean heard = sort != 2 && sort != 6;
            Edge.due("SORT " + sort, desk.roll.of(0, 50, 50, 4), heard ? 50 : NONE);
            Edge.due("SORT " + sort + " a DAY ahead", desk.roll.of(0, 49, 50, 4), NONE);
            desk.roll.act(0, 1, 49, 0);
            Edge.due("an ANSWER a DAY ahead of SORT " + sort, desk.roll.of(0, 60, 60, 4), heard ? 50 : 49);
            desk.roll.act(0, 1, 51, 0);
            Edge.due("an ANSWER a DAY behind SORT " + sort, desk.roll.of(0, 60, 60, 4), 51);
            Edge.due("ahead of that ANSWER", desk.roll.of(0, 50, 60, 4), heard ? 50 : 49);
        }
        for (int act = 0; act <= 5; act++) {
            Desk desk = desk("");
            desk.tell("a,", 0, NONE, 5, 50);
            desk.roll.act(0, act, 60, 70);
            Edge.due("ACT " + act, desk.roll.of(0, 60, 70, 4), act == 1 ? 60 : 50);
            Edge.due("ACT " + act + " not known yet", desk.roll.of(0, 60, 69, 4), 50);
        }
        Desk two = desk("");
        two.tell("a,", 6, NONE, NONE, 0);
        two.roll.act(0, 1, 0, 0);
        Edge.due("an ANSWER on DAY 0", two.roll.of(0, 0, 0, 4), 0);
        two.roll.act(0, 1, 9, 0);
        two.roll.act(0, 1, 8, 0);
        Edge.due("the last ANSWER by its DAY", two.roll.of(0, 20, 20, 4), 9);
    }

    private static void asked() {
        Edge.of("ASKED: the last one of SORT 5: its PLACE's WARD is where the LINE stands.");
        Desk desk = desk("age 0");
        desk.tell("a,", 5, 0, 49, 10);
        desk.tell("a,", 5, NONE, 50, 20);
        desk.tell("a,", 0, NONE, 999, 30);
        Edge.due("not yet", desk.roll.of(0, 9, 99, 5), NONE);
        Edge.due("the first", desk.roll.of(0, 10, 99, 5), 0);
        Edge.due("a DAY ahead of the second", desk.roll.of(0, 19, 99, 5), 0);
        Edge.due("the second", desk.roll.of(0, 20, 99, 5), 1);
        Edge.due("a HOME is none", desk.roll.of(0, 30, 99, 5), 1);
        Edge.due("the LINE stands in WARD 0", desk.roll.ward(0, 19, 99, 0), 1);
        Edge.due("the LINE stands in WARD 1", desk.roll.ward(1, 20, 99, 0), 1);
        Edge.due("and in WARD 0 no more", desk.roll.ward(0, 20, 99, 0), 0);
    }

    private static void factDead() {
        Edge.of("FACTS of a PERSON on d as known on k: dead: DEAD.");
        Desk desk = desk("proof 2;strike if dead");
        desk.record("a,", 0, 2, NONE, NONE, NONE, 10, 0);
        desk.record("a,", 1, 2, NONE, NONE, NONE, 20, 30);
        Edge.due("one LIST", desk.roll.cause(0, 19, 30), 0);
        Edge.due("two LISTS", desk.roll.cause(0, 20, 30), 1);
        Edge.due("two LISTS, one not known", desk.roll.cause(0, 20, 29), 0);
    }

    private static int movedTo(int asked, int home) {
        Desk desk = desk("strike if moved");
        desk.tell("a,", 5, NONE, asked, 10);
        desk.tell("a,", 1, NONE, home, 20);
        return desk.roll.cause(0, 20, 20);
    }

    private static void factMoved() {
        Edge.of("moved: HOME's WARD is another one than that of ASKED.");
        Edge.due("the same PLACE", movedTo(60, 60), 0);
        Edge.due("the last PLACE of the WARD", movedTo(50, 99), 0);
        Edge.due("the first PLACE of the WARD", movedTo(99, 50), 0);
        Edge.due("the first PLACE of the next WARD", movedTo(99, 100), 1);
        Edge.due("the last PLACE of the WARD ahead", movedTo(50, 49), 1);
        Edge.due("from the first to the last WARD", movedTo(0, 999), 1);
        Desk desk = desk("nodoor 100;strike if moved");
        desk.tell("a,", 0, NONE, 999, 5);
        Edge.due("it has not ASKED", desk.roll.cause(0, 5, 40000), 0);
        desk.tell("a,", 5, NONE, 60, 10);
        Edge.due("asking is HOME", desk.roll.cause(0, 10, 40000), 0);
        desk.tell("a,", 4, NONE, NONE, 20);
        Edge.due("without a door, a PLACE in another WARD", desk.roll.cause(0, 20, 40000), 1);
        Edge.due("without a door, a PLACE in the WARD", holds(desk, "nodoor 99;strike if moved", 20), 0);
        Edge.due("without a door, no PLACE", holds(desk, "strike if moved", 20), 0);
    }

    private static void factNohome() {
        Edge.of("nohome: HOME is NONE.");
        Desk desk = desk("");
        desk.tell("a,", 6, NONE, 60, 5);
        desk.tell("a,", 0, NONE, 0, 10);
        desk.tell("a,", 4, NONE, 60, 20);
        Edge.due("none yet", holds(desk, "strike if nohome", 9), 1);
        Edge.due("PLACE 0 is one", holds(desk, "strike if nohome", 10), 0);
        Edge.due("without a door", holds(desk, "strike if nohome", 20), 1);
        Edge.due("without a door, by a LAW with a PLACE", holds(desk, "nodoor 0;strike if nohome", 20), 0);
        desk.roll.hide(1);
        Edge.due("a hidden one is one", holds(desk, "strike if nohome", 10), 0);
    }

    private static int doubleBy(int place, int day) {
        Desk desk = desk("strike if double");
        desk.tell("a,", 5, NONE, 50, 10);
        desk.tell("a,", 5, NONE, place, 20);
        return desk.roll.cause(0, day, 40000);
    }

    private static void factDouble() {
        Edge.of("double: it has two RECORDS of SORT 5 (of DAYS not behind d) of unlike WARDS.");
        Edge.due("the same PLACE", doubleBy(50, 20), 0);
        Edge.due("the last PLACE of the WARD", doubleBy(99, 20), 0);
        Edge.due("the next WARD", doubleBy(100, 20), 1);
        Edge.due("the WARD ahead", doubleBy(49, 20), 1);
        Edge.due("a DAY ahead of the second", doubleBy(100, 19), 0);
        Desk both = desk("strike if double");
        both.tell("a,", 5, NONE, 50, 10);
        both.tell("a,", 5, NONE, 100, 20);
        Edge.due("on the DAY of the second", both.roll.cause(0, 20, 40000), 1);
        Edge.due("and asked again a DAY ahead of it", both.roll.cause(0, 19, 40000), 0);
        Desk desk = desk("strike if double");
        desk.tell("a,", 5, NONE, 50, 10);
        desk.tell("a,", 0, NONE, 100, 20);
        Edge.due("one of another SORT", desk.roll.cause(0, 20, 40000), 0);
        desk.tell("a,", 5, NONE, 100, 30);
        desk.tell("a,", 5, NONE, 50, 40);
        desk.tell("a,", 5, NONE, 50, 50);
        Edge.due("two of unlike WARDS, the last two of one", desk.roll.cause(0, 50, 40000), 1);
        Desk same = desk("strike if double");
        same.tell("a,", 5, NONE, 50, 10);
        same.tell("a,", 5, NONE, 100, 10);
        Edge.due("both of one DAY", same.roll.cause(0, 10, 40000), 1);
    }

    private static int youngOn(String age, int birth, int day) {
        Desk desk = desk("strike if young" + age);
        desk.tell("a,", 6, birth, NONE, 0);
        return desk.roll.cause(0, day, 40000);
    }

    private static void factYoung() {
        Edge.of("young: BORN is NONE, or d less BORN is below \"age\".");
        Edge.due("a DAY less", youngOn(";age 18", 100, 117), 1);
        Edge.due("just so many", youngOn(";age 18", 100, 118), 0);
        Edge.due("ahead of BORN", youngOn(";age 18", 100, 50), 1);
        Edge.due("age 0 on BORN", youngOn(";age 0", 100, 100), 0);
        Edge.due("age 0 a DAY ahead of BORN", youngOn(";age 0", 100, 99), 1);
        Edge.due("age 40000 on the last DAY", youngOn(";age 40000", 0, 40000), 0);
        Edge.due("age 40000, born on DAY 1", youngOn(";age 40000", 1, 40000), 1);
        Edge.due("6569 DAYS without", youngOn("", 100, 6669), 1);
        Edge.due("6570 DAYS without", youngOn("", 100, 6670), 0);
        Edge.due("BORN is NONE", youngOn(";age 0", NONE, 40000), 1);
    }

    /** Whether one that is abroad since DAY 100 is away so many DAYS later. */
    static int away(String law, int days) {
        Desk desk = desk(law.isEmpty() ? "strike if away" : law + ";strike if away");
        desk.tell("a,", 3, NONE, NONE, 100);
        return desk.roll.cause(0, 100 + days, 40000);
    }

    private static void factAway() {
        Edge.of("away: ABROAD for more than \"abroad\" DAYS on d.");
        Edge.due("just so many", away("abroad 10", 10), 0);
        Edge.due("one more", away("abroad 10", 11), 1);
        Edge.due("abroad 0 on the DAY", away("abroad 0", 0), 0);
        Edge.due("abroad 0 on the next", away("abroad 0", 1), 1);
        Edge.due("a DAY ahead", away("abroad 0", -1), 0);
        Edge.due("abroad 40000", away("abroad 40000", 39900), 0);
        Desk desk = desk("abroad 0;strike if away");
        desk.tell("a,", 0, NONE, 5, 0);
        Edge.due("not ABROAD", desk.roll.cause(0, 40000, 40000), 0);
        desk.tell("a,", 3, NONE, NONE, 10);
        desk.tell("a,", 0, NONE, 5, 20);
        Edge.due("ABROAD", desk.roll.cause(0, 19, 40000), 1);
        Edge.due("ABROAD no more", desk.roll.cause(0, 20, 40000), 0);
    }

    private static int silentOn(int n, int day) {
        Desk desk = desk("strike if silent " + n);
        desk.tell("a,", 0, NONE, 5, 100);
        return desk.roll.cause(0, day, 40000);
    }

    private static void factSilent() {
        Edge.of("silent n: HEARD is NONE, or more than n DAYS ahead of d.");
        Edge.due("just n", silentOn(10, 110), 0);
        Edge.due("one more", silentOn(10, 111), 1);
        Edge.due("silent 0 on the DAY", silentOn(0, 100), 0);
        Edge.due("silent 0 on the next", silentOn(0, 101), 1);
        Edge.due("HEARD is NONE", silentOn(40000, 99), 1);
        Edge.due("silent 40000", silentOn(40000, 40000), 0);
        Edge.due("silent 39900 on the last DAY", silentOn(39900, 40000), 0);
        Edge.due("silent 39899 on the last DAY", silentOn(39899, 40000), 1);
    }

    private static void factWard() {
        Edge.of("ward n: the WARD of ASKED (no one's, if it has not ASKED).");
        Desk desk = desk("");
        desk.tell("a,", 0, NONE, 950, 0);
        desk.tell("a,", 5, NONE, 49, 10);
        desk.tell("a,", 5, NONE, 950, 20);
        for (int ward = 0; ward <= 19; ward++) {
            String law = "strike if ward " + ward;
            Edge.due(law + ", not ASKED", holds(desk, law, 9), 0);
            Edge.due(law + ", WARD 0", holds(desk, law, 10), ward == 0 ? 1 : 0);
            Edge.due(law + ", WARD 19", holds(desk, law, 20), ward == 19 ? 1 : 0);
        }
    }

    private static void of() {
        Edge.of("Of the PERSON of a RECORD on d as known on k what 0 BORN, 1 HOME, 2 ABROAD since, 3 1 DEAD, else 0, 4 HEARD,"
                + " 5 the WARD of ASKED, 6 how many RECORDS (of any DAY);");
        Desk desk = desk("");
        desk.record("a,", 0, 5, 7, 60, NONE, 10, 0);
        desk.record("a,", 0, 3, 7, NONE, NONE, 20, 0);
        desk.record("a,", 0, 2, 7, NONE, NONE, 30, 40);
        int[] dues = {7, 60, 20, 1, 20, 1, 3};
        int[] ahead = {7, 60, 20, 0, 20, 1, 2};
        for (int what = 0; what <= 6; what++) {
            for (int record = 0; record <= 2; record++) {
                Edge.due("what " + what + " of RECORD " + record, desk.roll.of(record, 30, 40, what), dues[what]);
            }
            Edge.due("what " + what + " as known a DAY ahead", desk.roll.of(0, 30, 39, what), ahead[what]);
        }
        Edge.due("RECORDS of any DAY", desk.roll.of(0, 0, 40, 6), 3);
        Desk full = new Desk();
        full.fill(120);
        full.roll.terms(0, 1, 1, 1, 1, 0);
        Edge.due("120 RECORDS", full.roll.of(119, 0, 0, 6), 120);
    }

    private static void ofWithout() {
        Edge.of("NONE for 0, 1, 2, 4, 5 without, and without the RECORD (or not known), DAYS, what.");
        Desk desk = desk("");
        Edge.due("no RECORD at all", desk.roll.of(0, 0, 0, 6), NONE);
        desk.record("a,", 0, 6, NONE, NONE, NONE, 10, 20);
        for (int what = 0; what <= 6; what++) {
            int due = what == 3 ? 0 : what == 6 ? 1 : NONE;
            Edge.due("without, what " + what, desk.roll.of(0, 10, 20, what), due);
            Edge.due("not known, what " + what, desk.roll.of(0, 10, 19, what), NONE);
            Edge.due("behind the last RECORD, what " + what, desk.roll.of(1, 10, 20, what), NONE);
            Edge.due("RECORD -1, what " + what, desk.roll.of(-1, 10, 20, what), NONE);
            Edge.due("RECORD greatest, what " + what, desk.roll.of(Edge.GREATEST, 10, 20, what), NONE);
            Edge.due("DAY -1, what " + what, desk.roll.of(0, -1, 20, what), NONE);
            Edge.due("DAY 40001, what " + what, desk.roll.of(0, 40001, 20, what), NONE);
            Edge.due("known on -1, what " + what, desk.roll.of(0, 10, -1, what), NONE);
            Edge.due("known on 40001, what " + what, desk.roll.of(0, 10, 40001, what), NONE);
        }
        for (int what : new int[] {-1, 7, Edge.LEAST, Edge.GREATEST}) {
            Edge.due("what " + what, desk.roll.of(0, 10, 20, what), NONE);
        }
    }

    private static void led() {
        Edge.of("Which RECORD made it: what 1 HOME, 2 ABROAD, 3 the last of SORT 2, 5 ASKED (by its RECORDS of DAYS not behind d)."
                + " NONE.");
        Desk desk = desk("proof 8");
        Edge.due("no RECORD at all", desk.roll.led(0, 0, 0, 1), NONE);
        desk.record("a,", 0, 6, NONE, NONE, NONE, 0, 0);
        for (int what = 1; what <= 5; what++) {
            Edge.due("without, what " + what, desk.roll.led(0, 50, 50, what), NONE);
        }
        desk.record("a,", 0, 5, NONE, 60, NONE, 10, 0);
        desk.record("a,", 0, 3, NONE, NONE, NONE, 20, 0);
        desk.record("a,", 0, 2, NONE, NONE, NONE, 30, 0);
        desk.record("a,", 0, 2, NONE, NONE, NONE, 30, 60);
        VoteRoll roll = desk.roll;
        Edge.due("HOME a DAY ahead", roll.led(0, 9, 50, 1), NONE);
        Edge.due("HOME", roll.led(0, 10, 50, 1), 1);
        Edge.due("ASKED a DAY ahead", roll.led(0, 9, 50, 5), NONE);
        Edge.due("ASKED", roll.led(0, 10, 50, 5), 1);
        Edge.due("ABROAD a DAY ahead", roll.led(0, 19, 50, 2), NONE);
        Edge.due("ABROAD", roll.led(0, 20, 50, 2), 2);
        Edge.due("the last of SORT 2 a DAY ahead", roll.led(0, 29, 50, 3), NONE);
        Edge.due("the last of SORT 2, though not DEAD", roll.led(0, 30, 50, 3), 3);
        Edge.due("the last of SORT 2 as known on 59", roll.led(0, 30, 59, 3), 3);
        Edge.due("the last of SORT 2 as known on 60", roll.led(0, 30, 60, 3), 4);
        desk.record("a,", 0, 1, NONE, 70, NONE, 40, 0);
        Edge.due("ABROAD no more", roll.led(0, 40, 50, 2), NONE);
        Edge.due("another HOME", roll.led(0, 40, 50, 1), 5);
        Edge.due("ASKED still", roll.led(0, 40, 50, 5), 1);
        for (int what : new int[] {-1, 0, 4, 6, Edge.LEAST, Edge.GREATEST}) {
            Edge.due("what " + what, roll.led(0, 40, 50, what), NONE);
        }
        Edge.due("behind the last RECORD", roll.led(6, 40, 50, 1), NONE);
        Edge.due("RECORD -1", roll.led(-1, 40, 50, 1), NONE);
        Edge.due("RECORD not known", roll.led(4, 40, 59, 1), NONE);
        Edge.due("RECORD known", roll.led(4, 40, 60, 1), 5);
        for (int day : new int[] {-1, 40001}) {
            Edge.due("DAY " + day, roll.led(0, day, 50, 1), NONE);
            Edge.due("known on " + day, roll.led(0, 40, day, 1), NONE);
        }
    }

    private static void hide() {
        Edge.of("A RECORD's PLACE is hidden: 0; HOME from it is told by of() as NONE - 1 (-2) then (all else goes by it).");
        Desk desk = desk("strike if moved");
        desk.tell("a,", 5, NONE, 60, 10);
        desk.tell("a,", 1, NONE, 0, 20);
        VoteRoll roll = desk.roll;
        Edge.due("HOME ahead of hiding", roll.of(0, 20, 20, 1), 0);
        Edge.due("hide(1)", roll.hide(1), 0);
        Edge.due("HOME from it", roll.of(0, 20, 20, 1), -2);
        Edge.due("HOME from another one", roll.of(0, 19, 20, 1), 60);
        Edge.due("no HOME", roll.of(0, 9, 20, 1), NONE);
        Edge.due("the CAUSE goes by it", roll.cause(0, 20, 20), 1);
        Edge.due("the RECORD is told", roll.led(0, 20, 20, 1), 1);
        Edge.due("hide(0)", roll.hide(0), 0);
        Edge.due("HOME from both", roll.of(0, 19, 20, 1), -2);
        Edge.due("the WARD of ASKED is told", roll.of(0, 19, 20, 5), 1);
        roll.wish(0);
        Edge.due("the CASE goes by it", roll.caseOf(0, 20, 20), 0);
        desk.tell("a,", 4, NONE, NONE, 30);
        roll.hide(2);
        Edge.due("without a door, no PLACE", roll.of(0, 30, 30, 1), NONE);
        desk.law("nodoor 5");
        Edge.due("without a door, a PLACE", roll.of(0, 30, 30, 1), -2);
        Desk odds = new Desk();
        odds.record(",", 0, 0, NONE, 60, NONE, 0, 0);
        odds.record(",", 0, 0, NONE, 60, NONE, 0, 0);
        odds.roll.hide(0);
        Edge.due("the FIELD goes by it", odds.roll.odds(0, 1, 4), 1);
    }

    private static void hideRefused() {
        Edge.of("A RECORD's PLACE is hidden: 0; HOME from it is told by of() as NONE - 1 (-2) then (all else goes by it). -2; -4.");
        Desk desk = desk("");
        Edge.due("no RECORD at all", desk.roll.hide(0), -2);
        desk.tell("a,", 0, NONE, 60, 10);
        Edge.due("behind the last", desk.roll.hide(1), -2);
        Edge.due("-1", desk.roll.hide(-1), -2);
        Edge.due("the first time", desk.roll.hide(0), 0);
        Edge.due("the second time", desk.roll.hide(0), -4);
        Edge.due("it stays hidden", desk.roll.of(0, 10, 10, 1), -2);
        Desk full = new Desk();
        full.fill(120);
        Edge.due("the last of 120", full.roll.hide(119), 0);
        Edge.due("behind it", full.roll.hide(120), -2);
    }

    private static void cause() {
        Edge.of("Whether the CAUSE holds of the PERSON of a RECORD on d as known on k: 1, 0; NONE.");
        Desk desk = desk("strike if nohome");
        Edge.due("no RECORD at all", desk.roll.cause(0, 0, 0), NONE);
        desk.record("a,", 0, 0, NONE, 60, NONE, 10, 20);
        VoteRoll roll = desk.roll;
        Edge.due("it holds", roll.cause(0, 9, 20), 1);
        Edge.due("it does not hold", roll.cause(0, 10, 20), 0);
        Edge.due("not known", roll.cause(0, 10, 19), NONE);
        Edge.due("behind the last RECORD", roll.cause(1, 10, 20), NONE);
        Edge.due("RECORD -1", roll.cause(-1, 10, 20), NONE);
        for (int day : new int[] {-1, 40001}) {
            Edge.due("DAY " + day, roll.cause(0, day, 20), NONE);
            Edge.due("known on " + day, roll.cause(0, 10, day), NONE);
        }
        desk.law("age 1");
        Edge.due("no CAUSE", roll.cause(0, 9, 20), 0);
        // the deepest CAUSE that the LAW lets in, with an open "or" and an open "and" in each bracket
        desk.law("strike if " + "dead or nohome and(".repeat(10) + "nohome" + ")".repeat(10));
        Edge.due("the deepest one holds", roll.cause(0, 9, 20), 1);
        Edge.due("the deepest one does not", roll.cause(0, 10, 20), 0);
        desk.law("strike if nohome" + " or dead".repeat(39));
        Edge.due("40 FACTS, the first holds", roll.cause(0, 9, 20), 1);
        desk.law("strike if " + "dead or ".repeat(39) + "nohome");
        Edge.due("40 FACTS, the last holds", roll.cause(0, 9, 20), 1);
        desk.law("strike if nohome" + " and nohome".repeat(20) + " and dead");
        Edge.due("22 FACTS, the last does not hold", roll.cause(0, 9, 20), 0);
    }
}
