/** Promises 26 to 28: DOORS, what is missing behind them, LUCK. */
public final class DrawsTest {
    public static void main(String[] args) {
        doors();
        missing();
        allDoors();
        luck();
        allHalves();
        Desk.finish();
    }

    private static void doors() {
        VoteRoll roll = new VoteRoll();
        int[][] wrong = {{-1, 1, 0, 0}, {20, 1, 0, 0}, {0, 0, 0, 0}, {0, 61, 0, 0}, {0, -1, 0, 0}, {0, 5, -1, 0},
            {0, 5, 6, 0}, {0, 5, 3, -1}, {0, 5, 3, 4}};
        for (int[] w : wrong) {
            Desk.due("26: doors " + java.util.Arrays.toString(w), roll.doors(w[0], w[1], w[2], w[3]), -1);
        }
        Desk.due("26: status()", roll.status(), -1);
        Desk.due("27: none told", roll.missing(0, 2), -1);
        Desk.due("26: the most", roll.doors(19, 60, 60, 60), 0);
        Desk.due("26: status()", roll.status(), 0);
        Desk.due("27: all of them", roll.missing(19, 2), 60);
        Desk.due("26: told anew", roll.doors(19, 1, 0, 0), 0);
        Desk.due("27: the latest", roll.missing(19, 1), 1);
        Desk.due("26: what is refused", roll.doors(19, 3, 4, 0), -1);
        Desk.due("27: leaves them", roll.missing(19, 1), 1);
    }

    private static void missing() {
        VoteRoll one = new VoteRoll();
        one.doors(8, 1, 0, 0);
        Desk.due("27: the sum of one that guesses none", one.missing(-1, 2), 0);
        one.doors(8, 1, 1, 1);
        Desk.due("27: the sum of one door", one.missing(-1, 2), 1);
        VoteRoll roll = new VoteRoll();
        // 20 doors, 1 drawn: it misses somebody by x / 20, so 1 is just a twentieth
        roll.doors(0, 20, 1, 1);
        Desk.due("27: just a twentieth: AT LEAST", roll.missing(0, 0), 1);
        Desk.due("27: AT MOST", roll.missing(0, 1), 20);
        Desk.due("27: GUESSED", roll.missing(0, 2), 20);
        roll.doors(0, 20, 1, 0);
        Desk.due("27: AT LEAST none", roll.missing(0, 0), 0);
        Desk.due("27: just a twentieth: AT MOST", roll.missing(0, 1), 19);
        roll.doors(1, 21, 1, 1);
        Desk.due("27: below a twentieth", roll.missing(1, 0), 2);
        roll.doors(1, 21, 1, 0);
        Desk.due("27: below a twentieth", roll.missing(1, 1), 19);
        roll.doors(2, 5, 2, 1);
        Desk.due("27: a half is rounded up", roll.missing(2, 2), 3);
        roll.doors(3, 10, 3, 1);
        Desk.due("27: a third is rounded down", roll.missing(3, 2), 3);
        roll.doors(4, 10, 6, 4);
        Desk.due("27: two thirds are rounded up", roll.missing(4, 2), 7);
        Desk.due("27: the sum of all", roll.missing(-1, 2), 3 + 3 + 7);
        Desk.due("27: of all 2 alone", roll.missing(-1, 0), -1);
        Desk.due("27: of all 2 alone", roll.missing(-1, 1), -1);
        Desk.due("27: no such what", roll.missing(0, 3), -1);
        Desk.due("27: no such what", roll.missing(0, -1), -1);
        Desk.due("27: no such WARD", roll.missing(20, 0), -1);
        Desk.due("27: no such WARD", roll.missing(-2, 2), -1);
        Desk.due("27: WARD without DOORS", roll.missing(5, 0), -1);
    }

    private static void allDoors() {
        Model model = new Model();
        VoteRoll roll = new VoteRoll();
        for (int n = 1; n <= 60; n += n < 12 ? 1 : 6) {
            for (int m = 0; m <= n; m += n < 12 ? 1 : 2) {
                for (int k = 0; k <= m; k++) {
                    roll.doors(7, n, m, k);
                    model.doors(7, n, m, k);
                    for (int what = 0; what <= 2; what++) {
                        Desk.due("27: " + n + " " + m + " " + k + " what " + what, roll.missing(7, what),
                                model.missing(7, what));
                    }
                }
            }
        }
    }

    private static void luck() {
        VoteRoll roll = new VoteRoll();
        Desk.due("28: 3 of 4, 1 of 4: upper", roll.luck(4, 3, 4, 1, 0), 17);
        Desk.due("28: 3 of 4, 1 of 4: lower", roll.luck(4, 3, 4, 1, 1), 70);
        Desk.due("28: nobody asked: upper", roll.luck(0, 0, 0, 0, 0), 1);
        Desk.due("28: nobody asked: lower", roll.luck(0, 0, 0, 0, 1), 1);
        Desk.due("28: all of 30 and none: upper", roll.luck(30, 30, 30, 0, 0), 1);
        Desk.due("28: all of 30 and none: lower", roll.luck(30, 30, 30, 0, 1), 118264581564861424L);
        Desk.due("28: all of all", roll.luck(30, 30, 30, 30, 1), 1);
        int[][] wrong = {{31, 0, 0, 0, 0}, {-1, 0, 0, 0, 0}, {0, 0, 31, 0, 0}, {0, 0, -1, 0, 0}, {5, 6, 5, 0, 0},
            {5, -1, 5, 0, 0}, {5, 0, 5, 6, 0}, {5, 0, 5, -1, 0}, {5, 0, 5, 0, 2}, {5, 0, 5, 0, -1}};
        for (int[] w : wrong) {
            Desk.due("28: luck " + java.util.Arrays.toString(w), roll.luck(w[0], w[1], w[2], w[3], w[4]), -1);
        }
    }

    private static void allHalves() {
        Model model = new Model();
        VoteRoll roll = new VoteRoll();
        for (int n1 = 0; n1 <= 30; n1 += n1 < 5 ? 1 : 5) {
            for (int n2 = 0; n2 <= 30; n2 += n2 < 5 ? 1 : 5) {
                for (int a1 = 0; a1 <= n1; a1++) {
                    for (int a2 = 0; a2 <= n2; a2++) {
                        for (int what = 0; what <= 1; what++) {
                            Desk.due("28: " + n1 + " " + a1 + " " + n2 + " " + a2 + " what " + what,
                                    roll.luck(n1, a1, n2, a2, what), model.luck(n1, a1, n2, a2, what));
                        }
                    }
                }
            }
        }
    }
}
