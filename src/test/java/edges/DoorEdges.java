import java.math.BigInteger;

/** Term VII, promises 26 to 28: DOORS, what is missing behind them, LUCK. */
final class DoorEdges {
    private static final int NONE = VoteRoll.NONE;

    private DoorEdges() {
    }

    static void look() {
        doorsOfAWard();
        bounds();
        guessed();
        doors();
        toldAnew();
        missing();
        missingWithout();
        half();
        luckTerm();
        luck();
    }

    private static void doorsOfAWard() {
        Edge.of("DOORS of a WARD: n in all (1 .. 60), m drawn (0 .. n), at k of which (0 .. m) somebody was missing on the roll.");
        VoteRoll roll = new VoteRoll();
        int[][] cases = {{0, 0, 0, -1}, {1, 0, 0, 0}, {60, 0, 0, 0}, {61, 0, 0, -1}, {-1, 0, 0, -1},
            {5, -1, 0, -1}, {5, 0, 0, 0}, {5, 5, 0, 0}, {5, 6, 0, -1}, {60, 60, 0, 0}, {60, 61, 0, -1}, {1, 1, 1, 0}, {1, 2, 0, -1},
            {5, 3, -1, -1}, {5, 3, 0, 0}, {5, 3, 3, 0}, {5, 3, 4, -1}, {5, 0, 1, -1}, {60, 60, 60, 0}, {60, 60, 61, -1},
            {Edge.GREATEST, 0, 0, -1}, {Edge.LEAST, 0, 0, -1}, {5, Edge.GREATEST, 0, -1}, {5, Edge.LEAST, 0, -1},
            {5, 3, Edge.GREATEST, -1}, {5, 3, Edge.LEAST, -1}};
        for (int[] c : cases) {
            Edge.due("n " + c[0] + ", m " + c[1] + ", k " + c[2], roll.doors(0, c[0], c[1], c[2]), c[3]);
        }
    }

    /** AT LEAST, AT MOST and GUESSED as one text. */
    private static String told(int n, int m, int k) {
        VoteRoll roll = new VoteRoll();
        roll.doors(7, n, m, k);
        return roll.missing(7, 0) + " " + roll.missing(7, 1) + " " + roll.missing(7, 2);
    }

    private static void bounds() {
        Edge.of("AT MOST so many of the n miss somebody: the greatest number X for which the chance that at most k of m drawn do is a"
                + " twentieth or more; AT LEAST: the least X for which the chance that at least k do is so (of X from k to"
                + " n - m + k, exactly).");
        // 1 drawn of n: it is not one of X by (n - X) / n
        Edge.due("40, 1, 0: 2 of 40 is just a twentieth", told(40, 1, 0), "0 38 0");
        Edge.due("41, 1, 0: 2 of 41 is less", told(41, 1, 0), "0 38 0");
        Edge.due("39, 1, 0: 2 of 39 is more", told(39, 1, 0), "0 37 0");
        Edge.due("40, 1, 1: 2 of 40 is just a twentieth", told(40, 1, 1), "2 40 40");
        Edge.due("41, 1, 1: 2 of 41 is less", told(41, 1, 1), "3 41 41");
        // 2 drawn of 16: neither is one of 12 by 6 of 120
        Edge.due("16, 2, 0: 6 of 120 are just a twentieth", told(16, 2, 0), "0 12 0");
        Edge.due("16, 2, 2: 6 of 120 are just a twentieth", told(16, 2, 2), "4 16 16");
        Edge.due("17, 2, 0: 6 of 136 are less", told(17, 2, 0), "0 12 0");
        Edge.due("17, 2, 2: 6 of 136 are less", told(17, 2, 2), "5 17 17");
        Edge.due("none drawn", told(60, 0, 0), "0 60 0");
        Edge.due("all drawn, none missing", told(60, 60, 0), "0 0 0");
        Edge.due("all drawn, all missing", told(60, 60, 60), "60 60 60");
        Edge.due("all drawn, some missing", told(60, 60, 23), "23 23 23");
        Edge.due("one door, not drawn", told(1, 0, 0), "0 1 0");
        Edge.due("one door, none missing", told(1, 1, 0), "0 0 0");
        Edge.due("one door, missing", told(1, 1, 1), "1 1 1");
        Edge.due("all but one drawn, from k on", told(5, 4, 2), "2 3 3");
        Model model = new Model();
        VoteRoll roll = new VoteRoll();
        for (int n : new int[] {59, 60}) {
            for (int k = 0; k <= 30; k += 3) {
                model.doors(0, n, 30, k);
                roll.doors(0, n, 30, k);
                Edge.due(n + ", 30, " + k + ", exactly: AT LEAST", roll.missing(0, 0), model.missing(0, 0));
                Edge.due(n + ", 30, " + k + ", exactly: AT MOST", roll.missing(0, 1), model.missing(0, 1));
            }
        }
    }

    private static int guess(int n, int m, int k) {
        VoteRoll roll = new VoteRoll();
        roll.doors(0, n, m, k);
        return roll.missing(0, 2);
    }

    private static void guessed() {
        Edge.of("GUESSED: n times k / m, rounded (halves up; 0 of m 0).");
        Edge.due("2 1/2", guess(5, 2, 1), 3);
        Edge.due("7 1/2", guess(15, 6, 3), 8);
        Edge.due("29 29/59, just below a half", guess(60, 59, 29), 29);
        Edge.due("30 30/59, just above a half", guess(60, 59, 30), 31);
        Edge.due("3 1/3", guess(10, 3, 1), 3);
        Edge.due("6 2/3", guess(10, 3, 2), 7);
        Edge.due("a whole", guess(10, 5, 2), 4);
        Edge.due("0 of m 0", guess(60, 0, 0), 0);
        Edge.due("none of m 1", guess(60, 1, 0), 0);
        Edge.due("all", guess(60, 60, 60), 60);
        Edge.due("all of one drawn", guess(60, 1, 1), 60);
    }

    private static void doors() {
        Edge.of("DOORS of a WARD: 0; -1.");
        VoteRoll roll = new VoteRoll();
        Edge.due("WARD -1", roll.doors(-1, 5, 3, 1), -1);
        Edge.due("status()", roll.status(), -1);
        Edge.due("WARD 0", roll.doors(0, 5, 3, 1), 0);
        Edge.due("status()", roll.status(), 0);
        Edge.due("WARD 19", roll.doors(19, 5, 3, 1), 0);
        Edge.due("WARD 20", roll.doors(20, 5, 3, 1), -1);
        Edge.due("WARD least", roll.doors(Edge.LEAST, 5, 3, 1), -1);
        Edge.due("WARD greatest", roll.doors(Edge.GREATEST, 5, 3, 1), -1);
        Edge.due("of WARD 0", roll.missing(0, 2), 2);
        Edge.due("of WARD 19", roll.missing(19, 2), 2);
        Edge.due("of WARD 1", roll.missing(1, 2), NONE);
    }

    private static void toldAnew() {
        Edge.of("(Told anew: the latest.)");
        VoteRoll roll = new VoteRoll();
        roll.doors(3, 60, 60, 40);
        Edge.due("told once", roll.missing(3, 0), 40);
        roll.doors(3, 1, 0, 0);
        Edge.due("told anew: AT LEAST", roll.missing(3, 0), 0);
        Edge.due("told anew: AT MOST", roll.missing(3, 1), 1);
        Edge.due("told anew: GUESSED", roll.missing(3, 2), 0);
        roll.doors(3, 61, 60, 40);
        Edge.due("what is refused is not told", roll.missing(3, 1), 1);
    }

    private static void missing() {
        Edge.of("Of a WARD's DOORS 0 AT LEAST, 1 AT MOST, 2 GUESSED; of all WARDS with DOORS (ward NONE) 2 alone: their sum.");
        VoteRoll roll = new VoteRoll();
        roll.doors(0, 16, 2, 1);
        roll.doors(19, 5, 2, 1);
        // 16 doors, 2 drawn: at least one is of X by 1 - C(16 - X, 2) / 120, at most one by 1 - C(X, 2) / 120
        Edge.due("AT LEAST", roll.missing(0, 0), 1);
        Edge.due("AT MOST", roll.missing(0, 1), 15);
        Edge.due("GUESSED", roll.missing(0, 2), 8);
        Edge.due("their sum, each rounded", roll.missing(NONE, 2), 11);
        Edge.due("of all, what 0", roll.missing(NONE, 0), NONE);
        Edge.due("of all, what 1", roll.missing(NONE, 1), NONE);
        for (int ward = 0; ward < 20; ward++) {
            roll.doors(ward, 60, 60, 60);
        }
        Edge.due("of all 20, the most", roll.missing(NONE, 2), 1200);
        VoteRoll none = new VoteRoll();
        none.doors(5, 9, 0, 0);
        Edge.due("the sum of one that guesses 0", none.missing(NONE, 2), 0);
        none.doors(6, 1, 1, 1);
        Edge.due("the sum with one door that misses somebody", none.missing(NONE, 2), 1);
    }

    private static void missingWithout() {
        Edge.of("2 alone: their sum. NONE without.");
        VoteRoll roll = new VoteRoll();
        for (int ward = -1; ward <= 20; ward++) {
            Edge.due("no DOORS, WARD " + ward, roll.missing(ward, 2), NONE);
        }
        roll.doors(4, 5, 5, 5);
        Edge.due("WARD 4", roll.missing(4, 0), 5);
        Edge.due("of all", roll.missing(NONE, 2), 5);
        for (int ward : new int[] {-2, 3, 5, 20, Edge.LEAST, Edge.GREATEST}) {
            Edge.due("WARD " + ward, roll.missing(ward, 2), NONE);
        }
        for (int what : new int[] {-1, 3, Edge.LEAST, Edge.GREATEST}) {
            Edge.due("what " + what, roll.missing(4, what), NONE);
            Edge.due("of all, what " + what, roll.missing(NONE, what), NONE);
        }
    }

    private static void half() {
        Edge.of("A HALF tried: of n1 asked one way a1 answered, of n2 the other way a2 (n 0 .. 30 each).");
        VoteRoll roll = new VoteRoll();
        int[][] right = {{0, 0, 0, 0}, {30, 0, 0, 0}, {0, 0, 30, 0}, {30, 30, 30, 30}, {30, 30, 0, 0}, {0, 0, 30, 30}, {5, 5, 4, 4}};
        int[][] wrong = {{-1, 0, 5, 0}, {31, 0, 5, 0}, {5, 0, -1, 0}, {5, 0, 31, 0}, {5, -1, 5, 0}, {5, 6, 5, 0}, {5, 0, 5, -1},
            {5, 0, 5, 6}, {30, 31, 5, 0}, {5, 0, 30, 31}, {0, 1, 5, 0}, {5, 0, 0, 1}, {Edge.LEAST, 0, 5, 0},
            {Edge.GREATEST, 0, 5, 0}, {5, 0, Edge.GREATEST, 0}, {5, Edge.GREATEST, 5, 0}, {5, 0, 5, Edge.LEAST}};
        for (int what = 0; what <= 1; what++) {
            for (int[] h : right) {
                Edge.taken("luck" + java.util.Arrays.toString(h), roll.luck(h[0], h[1], h[2], h[3], what));
            }
            for (int[] h : wrong) {
                Edge.due("luck" + java.util.Arrays.toString(h), roll.luck(h[0], h[1], h[2], h[3], what), NONE);
            }
        }
    }

    private static String fraction(int n1, int a1, int n2, int a2) {
        VoteRoll roll = new VoteRoll();
        return roll.luck(n1, a1, n2, a2, 0) + "/" + roll.luck(n1, a1, n2, a2, 1);
    }

    private static void luckTerm() {
        Edge.of("LUCK: the chance that of a1 + a2 answers drawn among all asked alike a1 or more fall on the first, in lowest terms.");
        Edge.due("nobody asked", fraction(0, 0, 0, 0), "1/1");
        Edge.due("nobody asked one way", fraction(0, 0, 30, 17), "1/1");
        Edge.due("nobody asked the other way", fraction(30, 17, 0, 0), "1/1");
        Edge.due("no answers", fraction(30, 0, 30, 0), "1/1");
        Edge.due("all answers", fraction(30, 30, 30, 30), "1/1");
        Edge.due("none or more", fraction(2, 0, 2, 2), "1/1");
        Edge.due("one of one", fraction(1, 1, 1, 0), "1/2");
        Edge.due("one or more of two", fraction(2, 1, 2, 1), "5/6");
        Edge.due("just two of two", fraction(2, 2, 2, 0), "1/6");
        Edge.due("lowest terms", fraction(4, 3, 4, 1), "17/70");
        Edge.due("the least there is", fraction(30, 30, 30, 0), "1/118264581564861424");
        BigInteger all = Model.choose(60, 30);
        BigInteger middle = Model.choose(30, 15);
        BigInteger[] half = Model.lowest(all.add(middle.multiply(middle)), all.multiply(BigInteger.TWO));
        Edge.due("the greatest numbers: a half, and half of the middle", fraction(30, 15, 30, 15), half[0] + "/" + half[1]);
    }

    private static void luck() {
        Edge.of("LUCK: upper (what 0), lower (1) number; NONE.");
        VoteRoll roll = new VoteRoll();
        Edge.due("what 0", roll.luck(2, 1, 2, 1, 0), 5);
        Edge.due("what 1", roll.luck(2, 1, 2, 1, 1), 6);
        for (int what : new int[] {-1, 2, Edge.LEAST, Edge.GREATEST}) {
            Edge.due("what " + what, roll.luck(2, 1, 2, 1, what), NONE);
        }
        Edge.due("a number that can't be", roll.luck(2, 3, 2, 1, 0), NONE);
    }
}
