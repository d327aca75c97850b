import java.nio.charset.StandardCharsets;
import java.util.Random;

/** Runs of up to 512 random calls, each answer held against the plain model's. */
public final class ModelTest {
    private static final String[] FAMILIES = {"phil", "fil", "fill", "mueller", "muller", "miller", "a", "", "ck", "kk",
        "schmidt", "smith", "abcdefghijkl"};
    private static final String[] GIVENS = {"jan", "ian", "john", "jon", "a", "", "bo", "boo", "abcdefghijkl"};
    private static final String[] FACTS = {"dead", "moved", "nohome", "double", "young", "away", "silent", "ward"};

    private final Random random;
    private final VoteRoll roll = new VoteRoll();
    private final Model model = new Model();
    private final StringBuilder trail = new StringBuilder();
    private int lastDay;
    private int calls;
    private boolean failed;
    /** Half of the runs are of few persons on few days, so that much falls together. */
    private final boolean dense;

    private ModelTest(long seed) {
        random = new Random(seed);
        dense = seed % 2 == 0;
        lastDay = dense ? 25 + random.nextInt(30) : random.nextInt(3) == 0 ? 40000 : 60 + random.nextInt(400);
    }

    public static void main(String[] args) {
        long first = args.length > 0 ? Long.parseLong(args[0]) : 1;
        long runs = args.length > 1 ? Long.parseLong(args[1]) : 500;
        int wrong = 0;
        long calls = 0;
        for (long seed = first; seed < first + runs && wrong < 3; seed++) {
            ModelTest test = new ModelTest(seed);
            test.run();
            calls += test.calls;
            if (test.failed) {
                wrong++;
                System.out.println("seed " + seed + ":\n" + test.trail);
            }
        }
        System.out.println(calls + " calls held against the model, " + wrong + " runs not as due");
        if (wrong != 0) {
            System.exit(1);
        }
    }

    private void run() {
        int mood = random.nextInt(4);
        if (dense) {
            terms(0, 1, 1 + random.nextInt(3), 1, 1, random.nextInt(3) == 0 ? 1 << random.nextInt(3) : 0);
        }
        for (int i = 0; i < 480 && calls < 500 && !failed; i++) {
            step(mood);
        }
    }

    /** Many records that are nearly alike, M and U that make close ODDS, LISTS that name each ONCE. */
    private void joinStep() {
        int pick = random.nextInt(10);
        if (pick < 2 && model.records.size() < 16) {
            record();
        } else if (pick < 5) {
            int f = random.nextInt(5);
            int m = 60 + random.nextInt(8) * 5;
            int u = 1 + random.nextInt(30);
            same("field(" + f + "," + m + "," + u + ")", roll.field(f, m, u), model.field(f, m, u));
        } else if (pick < 6) {
            terms(random.nextInt(4), 1, 1 + random.nextInt(20), 1, 1 + random.nextInt(3), random.nextInt(256));
        } else {
            int k = random.nextInt(3) == 0 ? day() : Math.min(40000, lastDay);
            for (int r = 0; r < model.records.size(); r++) {
                same("person(" + r + "," + k + ")", roll.person(r, k), model.person(r, k));
            }
            same("joined(" + k + ",1)", roll.joined(k, 1), model.joined(k, 1));
        }
    }

    private void step(int mood) {
        int n = model.records.size();
        if (!dense && mood == 3 && n > 2) {
            joinStep();
            return;
        }
        int pick = random.nextInt(100);
        if (n < 3 || pick < (mood == 0 ? 25 : 8) && n < (mood == 1 ? 8 : 40)) {
            record();
        } else if (pick < (dense ? 10 : 12)) {
            law();
        } else if (pick < 14) {
            folds();
        } else if (pick < 18) {
            terms();
        } else if (pick < 36) {
            act();
        } else if (pick < 40) {
            small();
        } else if (pick < 70) {
            askFacts();
        } else if (pick < 80) {
            askMany();
        } else if (pick < 90) {
            purse();
        } else {
            draws();
        }
        if (random.nextInt(4) == 0) {
            same("status()", roll.status(), model.status);
        }
    }

    private void same(String call, long got, long want) {
        calls++;
        trail.append("  ").append(call).append(" = ").append(got);
        if (got != want) {
            failed = true;
            trail.append(", due is ").append(want);
        }
        trail.append('\n');
    }

    private int day() {
        if (random.nextInt(60) == 0) {
            return random.nextBoolean() ? -1 : 40001;
        }
        return random.nextInt(lastDay + 1);
    }

    private int late() {
        return random.nextInt(3) == 0 ? day() : Math.min(40000, lastDay);
    }

    private int near(int least, int most) {
        return least - 1 + random.nextInt(most - least + 3);
    }

    private int inside(int least, int most) {
        return random.nextInt(50) == 0 ? near(least, most) : least + random.nextInt(most - least + 1);
    }

    private int someRecord() {
        return random.nextInt(40) == 0 ? near(0, model.records.size()) : random.nextInt(model.records.size());
    }

    private <T> T one(T[] of) {
        return of[random.nextInt(of.length)];
    }

    private void type(String text) {
        byte[] bytes = text.getBytes(StandardCharsets.ISO_8859_1);
        int had = model.count(7);
        for (int at = 0; at < bytes.length; at += 20) {
            int[] w = new int[5];
            for (int i = 0; i < 5; i++) {
                w[i] = Desk.four(bytes, at + 4 * i);
            }
            same("feed(..)", roll.feed(w[0], w[1], w[2], w[3], w[4]), model.feed(w));
        }
        trail.append("  text: ").append(text).append('\n');
        int to = had + bytes.length;
        same("end(" + to + ")", roll.end(to), model.end(to));
        same("count(7)", roll.count(7), model.count(7));
    }

    private String spoil(String text) {
        if (random.nextInt(12) != 0 || text.isEmpty()) {
            return text;
        }
        int at = random.nextInt(text.length());
        String put = one(new String[] {"", " ", ",", "x", "9", ";", "(", ")", "not ", "\u00e9", "A", ">"});
        return text.substring(0, at) + put + text.substring(at + random.nextInt(2));
    }

    private void record() {
        String family = dense ? FAMILIES[random.nextInt(4) * 3] : one(FAMILIES);
        type(spoil(family + (random.nextInt(9) == 0 ? " , " : ",") + (dense ? "" : one(GIVENS))));
        int list = dense ? random.nextInt(3) : inside(0, 7);
        int sort = random.nextInt(dense ? 2 : 3) == 0 ? 5 : inside(0, 6);
        int birth = random.nextInt(4) == 0 ? -1 : random.nextInt(4) * (dense ? 3 : 10);
        boolean needs = sort == 0 || sort == 1 || sort == 5;
        int place = random.nextInt(needs ? 20 : 3) == 0 ? -1 : dense ? random.nextInt(3) * 49 : inside(0, 999);
        int number = random.nextInt(2) == 0 ? -1 : random.nextInt(3);
        int day = day();
        int known = random.nextInt(3) == 0 ? day() : day;
        same("record(" + list + "," + sort + "," + birth + "," + place + "," + number + "," + day + "," + known + ")",
                roll.record(list, sort, birth, place, number, day, known),
                model.record(list, sort, birth, place, number, day, known));
        same("fault()", roll.fault(), model.fault);
        int r = someRecordOrNone();
        int which = inside(0, 1);
        same("folded(" + r + "," + which + ",-1)", roll.folded(r, which, -1), model.folded(r, which, -1));
        int i = random.nextInt(14) - 1;
        same("folded(" + r + "," + which + "," + i + ")", roll.folded(r, which, i), model.folded(r, which, i));
    }

    private int someRecordOrNone() {
        return random.nextInt(model.records.size() + 1);
    }

    private String fact(int depth) {
        int pick = random.nextInt(12);
        if (pick == 0) {
            return "not " + fact(depth);
        }
        if (pick < 3 && depth < 3) {
            return "(" + cause(depth + 1) + ")";
        }
        String word = one(FACTS);
        if (word.equals("silent")) {
            return "silent " + random.nextInt(lastDay);
        }
        return word.equals("ward") ? "ward " + random.nextInt(20) : word;
    }

    private String cause(int depth) {
        StringBuilder text = new StringBuilder(fact(depth));
        int more = random.nextInt(4);
        for (int i = 0; i < more; i++) {
            text.append(random.nextBoolean() ? " and " : " or ").append(fact(depth));
        }
        return text.toString();
    }

    private String clause() {
        switch (random.nextInt(11)) {
            case 0:
                return "age " + random.nextInt(lastDay);
            case 1:
                return "proof " + inside(1, 4);
            case 2:
            case 3:
                return "notice " + random.nextInt(3) + " days " + random.nextInt(20);
            case 4:
                return "quiet " + random.nextInt(30);
            case 5:
                return "appeal " + random.nextInt(100);
            case 6:
                return "nodoor " + random.nextInt(1000);
            case 7:
                return "abroad " + random.nextInt(lastDay);
            default:
                return "strike if " + cause(0);
        }
    }

    private void law() {
        StringBuilder text = new StringBuilder(random.nextInt(3) == 0 ? " "
                : "notice 1 days 3 ; age 10 ;quiet 2; strike if not dead");
        if (dense) {
            text.append("; notice " + random.nextInt(3) + " days " + random.nextInt(4) + ";age " + random.nextInt(18)
                    + ";appeal " + random.nextInt(12) + ";proof " + (1 + random.nextInt(2)));
        }
        if (text.toString().startsWith(" ;")) {
            text.delete(0, 2);
        }
        int more = random.nextInt(dense ? 2 : 6);
        for (int i = 0; i < more; i++) {
            text.append(text.toString().isBlank() ? "" : ";").append(clause());
        }
        if (text.length() > 380) {
            text.setLength(380);
        }
        type(spoil(text.toString()));
        same("law()", roll.law(), model.law());
        same("fault()", roll.fault(), model.fault);
        same("count(2)", roll.count(2), model.count(2));
        same("count(3)", roll.count(3), model.count(3));
    }

    private void folds() {
        String[] pairs = {"ph>f", "ck>kk", "ue>u", "sch>s", "j>i", "l>", "a>bcd", "ll > l", "th>t", "o>oo", "k>c"};
        StringBuilder text = new StringBuilder(random.nextInt(4) == 0 ? "  " : one(pairs));
        int more = random.nextInt(6);
        for (int i = 0; i < more; i++) {
            text.append(text.toString().isBlank() ? "" : ",").append(one(pairs));
        }
        type(spoil(text.toString()));
        same("folds()", roll.folds(), model.folds());
        same("fault()", roll.fault(), model.fault);
    }

    private void terms() {
        if (random.nextInt(3) == 0) {
            int f = inside(0, 4);
            int m = random.nextBoolean() ? 90 : inside(1, 99);
            int u = random.nextBoolean() ? 10 : inside(1, 99);
            same("field(" + f + "," + m + "," + u + ")", roll.field(f, m, u), model.field(f, m, u));
            return;
        }
        int s = inside(0, 3);
        int a = inside(1, 5);
        int b = random.nextBoolean() ? inside(1, 5) : inside(1, 1000);
        int x = inside(1, 20);
        int y = inside(1, 20);
        int o = random.nextBoolean() ? 0 : inside(0, 255);
        terms(s, a, b, x, y, o);
    }

    private void terms(int s, int a, int b, int x, int y, int o) {
        same("terms(" + s + "," + a + "," + b + "," + x + "," + y + "," + o + ")", roll.terms(s, a, b, x, y, o),
                model.terms(s, a, b, x, y, o));
    }

    private void act() {
        int r = someRecord();
        int sort = random.nextInt(dense ? 2 : 4) == 0 ? random.nextInt(2) * 2 : inside(0, 5);
        int day = day();
        int known = random.nextInt(3) == 0 ? day() : Math.min(day, 5);
        same("act(" + r + "," + sort + "," + day + "," + known + ")", roll.act(r, sort, day, known),
                model.act(r, sort, day, known));
        int k = late();
        int a = random.nextInt(model.acts.size() + 1) - (random.nextInt(30) == 0 ? 1 : 0);
        for (int i = 0; i < 5 && (a < 0 || a >= model.acts.size() || model.acts.get(a).sort != 2); i++) {
            a = random.nextInt(model.acts.size() + 1);
        }
        same("lacks(" + a + "," + k + ")", roll.lacks(a, k), model.lacks(a, k));
    }

    private void small() {
        int v = day();
        int r = someRecord();
        if (random.nextInt(dense ? 8 : 2) == 0) {
            same("vote(" + v + ")", roll.vote(v), model.vote(v));
        } else {
            same("hide(" + r + ")", roll.hide(r), model.hide(r));
        }
        int what = near(0, 7);
        same("count(" + what + ")", roll.count(what), model.count(what));
    }

    private void askFacts() {
        int r = someRecord();
        int d = day();
        int k = late();
        int what = near(0, 6);
        String of = "(" + r + "," + d + "," + k;
        switch (random.nextInt(6)) {
            case 0:
                same("of" + of + "," + what + ")", roll.of(r, d, k, what), model.of(r, d, k, what));
                break;
            case 1:
                same("led" + of + "," + what + ")", roll.led(r, d, k, what), model.led(r, d, k, what));
                break;
            case 2:
                same("cause" + of + ")", roll.cause(r, d, k), model.cause(r, d, k));
                break;
            case 3:
                same("line" + of + ")", roll.line(r, d, k), model.line(r, d, k));
                break;
            case 4:
                same("since" + of + ")", roll.since(r, d, k), model.since(r, d, k));
                break;
            default:
                same("may" + of + ")", roll.may(r, d, k), model.may(r, d, k));
        }
    }

    private void askMany() {
        int d = day();
        int k = late();
        int r = someRecord();
        int q = someRecord();
        int what = near(0, 4);
        switch (random.nextInt(5)) {
            case 0:
                same("odds(" + r + "," + q + "," + what + ")", roll.odds(r, q, what), model.odds(r, q, what));
                break;
            case 1:
                same("person(" + r + "," + k + ")", roll.person(r, k), model.person(r, k));
                break;
            case 2:
                what = near(0, 1);
                same("joined(" + k + "," + what + ")", roll.joined(k, what), model.joined(k, what));
                break;
            case 3:
                int ward = random.nextBoolean() ? -1 : near(0, 19);
                what = near(0, 2);
                same("ward(" + ward + "," + d + "," + k + "," + what + ")", roll.ward(ward, d, k, what),
                        model.ward(ward, d, k, what));
                break;
            default:
                what = near(0, 3);
                same("tried(" + d + "," + k + "," + what + ")", roll.tried(d, k, what), model.tried(d, k, what));
        }
    }

    private void purse() {
        int d = day();
        int k = late();
        int r = someRecord();
        switch (random.nextInt(7)) {
            case 0:
                int c = inside(0, 3);
                int letter = inside(0, random.nextBoolean() ? 5 : 1000);
                int knock = inside(0, random.nextBoolean() ? 5 : 1000);
                same("chances(" + c + "," + letter + "," + knock + ")", roll.chances(c, letter, knock),
                        model.chances(c, letter, knock));
                break;
            case 1:
                letter = inside(0, random.nextBoolean() ? 5 : 1000);
                knock = inside(0, random.nextBoolean() ? 5 : 1000);
                same("costs(" + letter + "," + knock + ")", roll.costs(letter, knock), model.costs(letter, knock));
                break;
            case 2:
            case 3:
                // the model looks at every row, so no more than 9 of them, but for what is refused
                if (model.wishes.size() < 9 || model.wishes.contains(r)) {
                    same("wish(" + r + ")", roll.wish(r), model.wish(r));
                } else {
                    same("clear()", roll.clear(), model.clear());
                }
                break;
            case 4:
                int w = near(0, model.wishes.size());
                same("caseOf(" + w + "," + d + "," + k + ")", roll.caseOf(w, d, k), model.caseOf(w, d, k));
                break;
            default:
                int purse = inside(0, random.nextBoolean() ? 20 : 10000);
                same("plan(" + purse + "," + d + "," + k + ")", roll.plan(purse, d, k), model.plan(purse, d, k));
                for (int i = -2; i <= model.wishes.size(); i++) {
                    same("planned(" + i + ")", roll.planned(i), model.planned(i));
                }
        }
    }

    private void draws() {
        int w = inside(0, 19);
        int n = inside(1, 60);
        int m = inside(0, Math.max(n, 0));
        int k = inside(0, Math.max(m, 0));
        int what = near(0, 2);
        if (random.nextBoolean()) {
            same("doors(" + w + "," + n + "," + m + "," + k + ")", roll.doors(w, n, m, k), model.doors(w, n, m, k));
            same("missing(" + w + "," + what + ")", roll.missing(w, what), model.missing(w, what));
            same("missing(-1," + what + ")", roll.missing(-1, what), model.missing(-1, what));
        } else {
            int n1 = inside(0, 30);
            int a1 = inside(0, Math.max(n1, 0));
            int n2 = inside(0, 30);
            int a2 = inside(0, Math.max(n2, 0));
            what = near(0, 1);
            same("luck(" + n1 + "," + a1 + "," + n2 + "," + a2 + "," + what + ")", roll.luck(n1, a1, n2, a2, what),
                    model.luck(n1, a1, n2, a2, what));
        }
    }
}
