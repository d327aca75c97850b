import java.math.BigInteger;
import java.util.ArrayList;
import java.util.Collections;
import java.util.HashMap;
import java.util.List;
import java.util.Map;
import java.util.TreeMap;
import java.util.TreeSet;

/** The document once more, as slowly and as plainly as can be: what VoteRoll is held against. */
final class Model {
    static final int NONE = -1;

    static final class Rec {
        int id, list, sort, birth, place, number, day, known;
        String family, given;
        boolean hidden;
    }

    static final class Act {
        int id, record, sort, day, known;
    }

    static final class Token {
        String text;
        int place;
    }

    static final class Fault extends RuntimeException {
        final int place;

        Fault(int place) {
            super(null, null, false, false);
            this.place = place;
        }
    }

    interface Cause {
        boolean holds(View v);
    }

    StringBuilder tape = new StringBuilder();
    List<String[]> folds = new ArrayList<>();
    Map<String, Integer> law = lawWithout();
    Cause cause = v -> false;
    int clauses, causeFacts;
    int fault = NONE, status = 0;
    List<Rec> records = new ArrayList<>();
    List<Act> acts = new ArrayList<>();
    List<Integer> votes = new ArrayList<>();
    int[] m = {90, 90, 90, 90, 90}, u = {10, 10, 10, 10, 10};
    int slack = 0, pa = 1, pb = 100, bx = 1, by = 1, once = 0;
    Map<Integer, int[]> doors = new TreeMap<>();
    int[] letterChance = new int[4], knockChance = new int[4];
    int letterCost = 1, knockCost = 10;
    List<Integer> wishes = new ArrayList<>();
    int[] plannedRow = null;
    int plannedCost = NONE;

    static Map<String, Integer> lawWithout() {
        Map<String, Integer> w = new HashMap<>();
        w.put("age", 6570);
        w.put("proof", 1);
        w.put("notice", 1);
        w.put("days", 30);
        w.put("quiet", 90);
        w.put("appeal", 60);
        w.put("nodoor", NONE);
        w.put("abroad", 5000);
        return w;
    }

    static boolean isDay(int d) {
        return 0 <= d && d <= 40000;
    }

    int refused(int why) {
        status = why;
        return why;
    }

    int well(int answer) {
        status = 0;
        return answer;
    }

    // ---- texts

    int feed(int... five) {
        if (tape.length() + 20 > 400) {
            return NONE;
        }
        for (int x : five) {
            tape.append((char) (x >>> 24)).append((char) (x >>> 16 & 255)).append((char) (x >>> 8 & 255))
                    .append((char) (x & 255));
        }
        return tape.length();
    }

    int end(int n) {
        if (n < 0 || n > tape.length()) {
            return NONE;
        }
        tape.setLength(n);
        return n;
    }

    private List<Token> tokens;
    private int at;

    private void tokenize() {
        String text = tape.toString();
        tape.setLength(0);
        tokens = new ArrayList<>();
        java.util.regex.Matcher found =
                java.util.regex.Pattern.compile("[a-z]+|[0-9]+|[^ ]", java.util.regex.Pattern.DOTALL).matcher(text);
        while (found.find()) {
            Token t = new Token();
            t.text = found.group();
            t.place = found.start();
            tokens.add(t);
        }
        Token last = new Token();
        last.text = "";
        last.place = text.length();
        tokens.add(last);
        at = 0;
    }

    private String now() {
        return tokens.get(at).text;
    }

    private Fault wrong() {
        return new Fault(tokens.get(at).place);
    }

    private void need(String sign) {
        if (!now().equals(sign)) {
            throw wrong();
        }
        at++;
    }

    private String word(int most) {
        if (!now().matches("[a-z]+") || now().length() > most) {
            throw wrong();
        }
        return tokens.get(at++).text;
    }

    private int number(int least, int most) {
        if (!now().matches("[0-9]+")) {
            throw wrong();
        }
        BigInteger n = new BigInteger(now());
        if (n.compareTo(BigInteger.valueOf(least)) < 0 || n.compareTo(BigInteger.valueOf(most)) > 0) {
            throw wrong();
        }
        at++;
        return n.intValue();
    }

    int folds() {
        tokenize();
        List<String[]> fresh = new ArrayList<>();
        try {
            if (!now().isEmpty()) {
                while (true) {
                    if (fresh.size() == 16) {
                        throw wrong();
                    }
                    String left = word(3);
                    need(">");
                    String right = now().matches("[a-z]+") ? word(3) : "";
                    fresh.add(new String[] {left, right});
                    if (now().isEmpty()) {
                        break;
                    }
                    need(",");
                }
            }
        } catch (Fault f) {
            fault = f.place;
            return refused(-6);
        }
        fault = NONE;
        folds = fresh;
        return well(folds.size());
    }

    private Map<String, Integer> newLaw;
    private Cause newCause;
    private int newFacts, newCauseFacts;

    int law() {
        tokenize();
        newLaw = lawWithout();
        newCause = v -> false;
        newFacts = 0;
        newCauseFacts = 0;
        int newClauses = 0;
        try {
            if (!now().isEmpty()) {
                while (true) {
                    if (newClauses == 20) {
                        throw wrong();
                    }
                    clause();
                    newClauses++;
                    if (now().isEmpty()) {
                        break;
                    }
                    need(";");
                }
            }
        } catch (Fault f) {
            fault = f.place;
            return refused(-6);
        }
        fault = NONE;
        law = newLaw;
        cause = newCause;
        causeFacts = newCauseFacts;
        clauses = newClauses;
        return well(clauses);
    }

    private void clause() {
        String kind = now();
        switch (kind) {
            case "age": case "quiet": case "appeal": case "abroad":
                at++;
                newLaw.put(kind, number(0, 40000));
                return;
            case "proof":
                at++;
                newLaw.put(kind, number(1, 8));
                return;
            case "nodoor":
                at++;
                newLaw.put(kind, number(0, 999));
                return;
            case "notice":
                at++;
                newLaw.put(kind, number(0, 40000));
                need("days");
                newLaw.put("days", number(0, 40000));
                return;
            case "strike":
                at++;
                need("if");
                int before = newFacts;
                newCause = causeText(0);
                newCauseFacts = newFacts - before;
                return;
            default:
                throw wrong();
        }
    }

    private Cause causeText(int depth) {
        List<Cause> parts = new ArrayList<>();
        parts.add(both(depth));
        while (now().equals("or")) {
            at++;
            parts.add(both(depth));
        }
        return v -> parts.stream().anyMatch(p -> p.holds(v));
    }

    private Cause both(int depth) {
        List<Cause> parts = new ArrayList<>();
        parts.add(fact(depth));
        while (now().equals("and")) {
            at++;
            parts.add(fact(depth));
        }
        return v -> parts.stream().allMatch(p -> p.holds(v));
    }

    private Cause fact(int depth) {
        if (now().equals("not")) {
            at++;
            Cause inner = fact(depth);
            return v -> !inner.holds(v);
        }
        if (now().equals("(")) {
            if (depth == 10) {
                throw wrong();
            }
            at++;
            Cause inner = causeText(depth + 1);
            need(")");
            return inner;
        }
        String kind = now();
        if (!List.of("dead", "moved", "nohome", "double", "young", "away", "silent", "ward").contains(kind)
                || newFacts == 40) {
            throw wrong();
        }
        newFacts++;
        at++;
        int n = kind.equals("silent") ? number(0, 40000) : kind.equals("ward") ? number(0, 19) : 0;
        return v -> v.fact(kind, n);
    }

    int record(int list, int sort, int birth, int place, int number, int day, int known) {
        boolean needs = sort == 0 || sort == 1 || sort == 5;
        if (list < 0 || list > 7 || sort < 0 || sort > 6 || birth < -1 || birth > 40000 || place < -1 || place > 999
                || needs && place == -1 || number < -1 || number > 9999 || !isDay(day) || !isDay(known)) {
            return refused(-1);
        }
        if (records.size() == 120) {
            return refused(-5);
        }
        tokenize();
        Rec r = new Rec();
        try {
            r.family = now().matches("[a-z]+") ? word(12) : "";
            need(",");
            r.given = now().matches("[a-z]+") ? word(12) : "";
            need("");
        } catch (Fault f) {
            fault = f.place;
            return refused(-6);
        }
        fault = NONE;
        r.id = records.size();
        r.list = list;
        r.sort = sort;
        r.birth = birth;
        r.place = place;
        r.number = number;
        r.day = day;
        r.known = known;
        records.add(r);
        return well(r.id);
    }

    // ---- names and odds

    String fold(String name) {
        StringBuilder out = new StringBuilder();
        int i = 0;
        next:
        while (i < name.length()) {
            for (String[] pair : folds) {
                if (name.startsWith(pair[0], i)) {
                    out.append(pair[1]);
                    i += pair[0].length();
                    continue next;
                }
            }
            out.append(name.charAt(i++));
        }
        return out.toString();
    }

    boolean has(int record) {
        return record >= 0 && record < records.size();
    }

    int folded(int record, int which, int i) {
        if (!has(record) || which < 0 || which > 1) {
            return NONE;
        }
        String f = fold(which == 0 ? records.get(record).family : records.get(record).given);
        return i == -1 ? f.length() : i >= 0 && i < f.length() ? f.charAt(i) : NONE;
    }

    static int distance(String a, String b) {
        int[][] t = new int[a.length() + 1][b.length() + 1];
        for (int i = 0; i <= a.length(); i++) {
            for (int j = 0; j <= b.length(); j++) {
                if (i == 0 || j == 0) {
                    t[i][j] = i + j;
                } else {
                    int same = a.charAt(i - 1) == b.charAt(j - 1) ? 0 : 1;
                    t[i][j] = Math.min(t[i - 1][j - 1] + same, 1 + Math.min(t[i - 1][j], t[i][j - 1]));
                }
            }
        }
        return t[a.length()][b.length()];
    }

    /** 1 AGREE, 0 differ, -1 unknown. */
    int state(Rec a, Rec b, int field) {
        if (field < 2) {
            String x = field == 0 ? a.family : a.given;
            String y = field == 0 ? b.family : b.given;
            if (x.isEmpty() || y.isEmpty()) {
                return -1;
            }
            return distance(fold(x), fold(y)) <= slack ? 1 : 0;
        }
        int x = field == 2 ? a.birth : field == 3 ? a.place : a.number;
        int y = field == 2 ? b.birth : field == 3 ? b.place : b.number;
        return x == NONE || y == NONE ? -1 : x == y ? 1 : 0;
    }

    BigInteger[] oddsOf(Rec a, Rec b) {
        BigInteger up = BigInteger.valueOf(pa);
        BigInteger low = BigInteger.valueOf(pb);
        for (int f = 0; f < 5; f++) {
            int s = state(a, b, f);
            if (s == 1) {
                up = up.multiply(BigInteger.valueOf(m[f]));
                low = low.multiply(BigInteger.valueOf(u[f]));
            } else if (s == 0) {
                up = up.multiply(BigInteger.valueOf(100 - m[f]));
                low = low.multiply(BigInteger.valueOf(100 - u[f]));
            }
        }
        return lowest(up, low);
    }

    static BigInteger[] lowest(BigInteger up, BigInteger low) {
        BigInteger g = up.gcd(low);
        return new BigInteger[] {up.divide(g), low.divide(g)};
    }

    int field(int f, int mm, int uu) {
        if (f < 0 || f > 4 || mm < 1 || mm > 99 || uu < 1 || uu > 99) {
            return refused(-1);
        }
        m[f] = mm;
        u[f] = uu;
        return well(0);
    }

    int terms(int s, int a, int b, int x, int y, int o) {
        for (int n : new int[] {a, b, x, y}) {
            if (n < 1 || n > 1000) {
                return refused(-1);
            }
        }
        if (s < 0 || s > 3 || o < 0 || o > 255) {
            return refused(-1);
        }
        slack = s;
        pa = a;
        pb = b;
        bx = x;
        by = y;
        once = o;
        return well(0);
    }

    long odds(int a, int b, int what) {
        if (!has(a) || !has(b) || a == b) {
            return NONE;
        }
        BigInteger[] o = oddsOf(records.get(a), records.get(b));
        BigInteger[] risk = lowest(o[1], o[0].add(o[1]));
        switch (what) {
            case 0: case 1:
                return o[what].longValueExact();
            case 2: case 3:
                return risk[what - 2].longValueExact();
            case 4:
                int n = 0;
                for (int f = 0; f < 5; f++) {
                    n += state(records.get(a), records.get(b), f) == 1 ? 1 : 0;
                }
                return n;
            default:
                return NONE;
        }
    }

    // ---- persons

    int quarrels;

    /** PERSONS by their names. */
    TreeMap<Integer, TreeSet<Integer>> persons(int k) {
        List<Object[]> pairs = new ArrayList<>();
        Map<Integer, TreeSet<Integer>> home = new HashMap<>();
        for (Rec a : records) {
            if (a.known > k) {
                continue;
            }
            home.put(a.id, new TreeSet<>(List.of(a.id)));
            for (Rec b : records) {
                if (b.known > k || b.id <= a.id) {
                    continue;
                }
                BigInteger[] o = oddsOf(a, b);
                if (o[0].multiply(BigInteger.valueOf(by)).compareTo(o[1].multiply(BigInteger.valueOf(bx))) >= 0) {
                    pairs.add(new Object[] {o, a.id, b.id});
                }
            }
        }
        pairs.sort((p, q) -> {
            BigInteger[] x = (BigInteger[]) p[0];
            BigInteger[] y = (BigInteger[]) q[0];
            int c = y[0].multiply(x[1]).compareTo(x[0].multiply(y[1]));
            if (c != 0) {
                return c;
            }
            c = Integer.compare((int) p[1], (int) q[1]);
            return c != 0 ? c : Integer.compare((int) p[2], (int) q[2]);
        });
        quarrels = 0;
        for (Object[] p : pairs) {
            TreeSet<Integer> one = home.get((int) p[1]);
            TreeSet<Integer> two = home.get((int) p[2]);
            if (one == two) {
                continue;
            }
            boolean clash = false;
            for (int x : one) {
                for (int y : two) {
                    int l = records.get(x).list;
                    clash |= l == records.get(y).list && (once >> l & 1) == 1;
                }
            }
            if (clash) {
                quarrels++;
            } else {
                one.addAll(two);
                for (int y : two) {
                    home.put(y, one);
                }
            }
        }
        TreeMap<Integer, TreeSet<Integer>> out = new TreeMap<>();
        for (TreeSet<Integer> set : home.values()) {
            out.put(set.first(), set);
        }
        return out;
    }

    TreeSet<Integer> personOf(int record, int k) {
        for (TreeSet<Integer> set : persons(k).values()) {
            if (set.contains(record)) {
                return set;
            }
        }
        return null;
    }

    int person(int record, int known) {
        if (!has(record) || !isDay(known)) {
            return NONE;
        }
        TreeSet<Integer> p = personOf(record, known);
        return p == null ? NONE : p.first();
    }

    int joined(int known, int what) {
        if (!isDay(known) || what < 0 || what > 1) {
            return NONE;
        }
        int n = persons(known).size();
        return what == 0 ? n : quarrels;
    }

    // ---- what is known

    /** A PERSON on d as known on k. */
    final class View {
        final TreeSet<Integer> ids;
        final int d, k;
        final List<Rec> seen = new ArrayList<>();
        int born = NONE, home = NONE, heard = NONE;
        Rec homeRec, abroadRec, deadRec, askedRec;
        boolean dead, doubled;

        View(TreeSet<Integer> ids, int d, int k) {
            this.ids = ids;
            this.d = d;
            this.k = k;
            TreeMap<Integer, Integer> births = new TreeMap<>();
            for (int id : ids) {
                Rec r = records.get(id);
                if (r.birth != NONE) {
                    births.merge(r.birth, 1, Integer::sum);
                }
                if (r.day <= d) {
                    seen.add(r);
                }
            }
            seen.sort((a, b) -> a.day != b.day ? Integer.compare(a.day, b.day) : Integer.compare(a.id, b.id));
            for (Map.Entry<Integer, Integer> e : births.entrySet()) {
                if (born == NONE || e.getValue() > births.get(born)) {
                    born = e.getKey();
                }
            }
            homeRec = last(0, 1, 4, 5);
            if (homeRec != null) {
                home = homeRec.sort == 4 ? law.get("nodoor") : homeRec.place;
            }
            abroadRec = last(3);
            if (abroadRec != null && homeRec != null && seen.indexOf(homeRec) > seen.indexOf(abroadRec)) {
                abroadRec = null;
            }
            deadRec = last(2);
            askedRec = last(5);
            TreeSet<Integer> lists = new TreeSet<>();
            TreeSet<Integer> wards = new TreeSet<>();
            for (Rec r : seen) {
                if (r.sort == 2) {
                    lists.add(r.list);
                }
                if (r.sort == 5) {
                    wards.add(r.place / 50);
                }
            }
            dead = lists.size() >= law.get("proof");
            doubled = wards.size() > 1;
            Rec h = last(0, 1, 3, 4, 5);
            heard = h == null ? NONE : h.day;
            for (Act a : actsOf(ids, k)) {
                if (a.sort == 1 && a.day <= d) {
                    heard = Math.max(heard, a.day);
                }
            }
        }

        Rec last(int... sorts) {
            Rec found = null;
            for (Rec r : seen) {
                for (int s : sorts) {
                    if (r.sort == s) {
                        found = r;
                    }
                }
            }
            return found;
        }

        int ward() {
            return askedRec == null ? NONE : askedRec.place / 50;
        }

        boolean fact(String kind, int n) {
            switch (kind) {
                case "dead":
                    return dead;
                case "moved":
                    return home != NONE && askedRec != null && home / 50 != ward();
                case "nohome":
                    return home == NONE;
                case "double":
                    return doubled;
                case "young":
                    return born == NONE || d - born < law.get("age");
                case "away":
                    return abroadRec != null && d - abroadRec.day > law.get("abroad");
                case "silent":
                    return heard == NONE || d - heard > n;
                default:
                    return ward() == n;
            }
        }
    }

    List<Act> actsOf(TreeSet<Integer> ids, int k) {
        List<Act> out = new ArrayList<>();
        for (Act a : acts) {
            if (a.known <= k && ids.contains(a.record)) {
                out.add(a);
            }
        }
        return out;
    }

    View view(int record, int d, int k) {
        if (!has(record) || !isDay(d) || !isDay(k)) {
            return null;
        }
        TreeSet<Integer> ids = personOf(record, k);
        return ids == null ? null : new View(ids, d, k);
    }

    int of(int record, int d, int k, int what) {
        View v = view(record, d, k);
        if (v == null) {
            return NONE;
        }
        switch (what) {
            case 0:
                return v.born;
            case 1:
                return v.home != NONE && v.homeRec.hidden ? -2 : v.home;
            case 2:
                return v.abroadRec == null ? NONE : v.abroadRec.day;
            case 3:
                return v.dead ? 1 : 0;
            case 4:
                return v.heard;
            case 5:
                return v.ward();
            case 6:
                return v.ids.size();
            default:
                return NONE;
        }
    }

    int led(int record, int d, int k, int what) {
        View v = view(record, d, k);
        if (v == null) {
            return NONE;
        }
        Rec r = what == 1 ? v.homeRec : what == 2 ? v.abroadRec : what == 3 ? v.deadRec : what == 5 ? v.askedRec : null;
        return r == null ? NONE : r.id;
    }

    int hide(int record) {
        if (!has(record)) {
            return refused(-2);
        }
        if (records.get(record).hidden) {
            return refused(-4);
        }
        records.get(record).hidden = true;
        return well(0);
    }

    int act(int record, int sort, int day, int known) {
        if (sort < 0 || sort > 5 || !isDay(day) || !isDay(known)) {
            return refused(-1);
        }
        if (!has(record)) {
            return refused(-2);
        }
        if (acts.size() == 200) {
            return refused(-5);
        }
        Act a = new Act();
        a.id = acts.size();
        a.record = record;
        a.sort = sort;
        a.day = day;
        a.known = known;
        acts.add(a);
        return well(acts.size());
    }

    int vote(int day) {
        if (!isDay(day)) {
            return refused(-1);
        }
        if (votes.contains(day)) {
            return refused(-4);
        }
        if (votes.size() == 12) {
            return refused(-5);
        }
        votes.add(day);
        return well(votes.size());
    }

    int cause(int record, int d, int k) {
        View v = view(record, d, k);
        return v == null ? NONE : cause.holds(v) ? 1 : 0;
    }

    // ---- the line, day by day

    final class Way {
        int state = 0, since = NONE;
        final Map<Integer, Integer> lacks = new HashMap<>();

        Way(TreeSet<Integer> ids, int d, int k) {
            List<Act> mine = actsOf(ids, k);
            int born = new View(ids, 0, k).born;
            TreeSet<Integer> days = new TreeSet<>();
            for (int id : ids) {
                days.add(records.get(id).day);
            }
            for (Act a : mine) {
                days.add(a.day);
            }
            if (born != NONE) {
                days.add(born + law.get("age"));
            }
            for (int day : days) {
                if (day > d) {
                    break;
                }
                if (state == 3 && born != NONE && day == born + law.get("age") && day > since
                        && !new View(ids, day, k).dead) {
                    state = 1;
                    since = day;
                }
                for (Rec r : records) {
                    if (ids.contains(r.id) && r.sort == 5 && r.day == day && state != 1) {
                        View v = new View(ids, day, k);
                        state = v.fact("young", 0) || v.dead ? 3 : 1;
                        since = day;
                    }
                }
                for (Act a : mine) {
                    if (a.day == day && a.sort == 2) {
                        int lack = lack(ids, mine, day, k);
                        lacks.put(a.id, lack);
                        if (lack == 0) {
                            state = 2;
                            since = day;
                        }
                    }
                    if (a.day == day && a.sort == 3 && state == 2 && day - since <= law.get("appeal")) {
                        state = 1;
                        since = day;
                    }
                }
            }
        }

        int lack(TreeSet<Integer> ids, List<Act> mine, int s, int k) {
            if (state != 1) {
                return 1;
            }
            for (int v : votes) {
                if (v == s || v > s && v - s <= law.get("quiet")) {
                    return 2;
                }
            }
            List<Integer> notices = new ArrayList<>();
            for (Act a : mine) {
                if (a.sort == 0 && a.day >= since && a.day <= s - law.get("days")) {
                    notices.add(a.day);
                }
            }
            Collections.sort(notices);
            int wanted = law.get("notice");
            if (notices.size() < wanted) {
                return 3;
            }
            if (wanted > 0) {
                int first = notices.get(notices.size() - wanted);
                for (Act a : mine) {
                    if (a.sort == 1 && a.day >= first && a.day <= s) {
                        return 4;
                    }
                }
            }
            return cause.holds(new View(ids, s, k)) ? 0 : 5;
        }
    }

    Way way(int record, int d, int k) {
        View v = view(record, d, k);
        return v == null ? null : new Way(v.ids, d, k);
    }

    int line(int record, int d, int k) {
        Way w = way(record, d, k);
        return w == null ? NONE : w.state;
    }

    int since(int record, int d, int k) {
        Way w = way(record, d, k);
        return w == null ? NONE : w.since;
    }

    int lacks(int act, int k) {
        if (act < 0 || act >= acts.size() || !isDay(k)) {
            return NONE;
        }
        Act a = acts.get(act);
        if (a.sort != 2 || a.known > k) {
            return NONE;
        }
        Way w = way(a.record, a.day, k);
        return w == null ? NONE : w.lacks.get(act);
    }

    int may(int record, int d, int k) {
        View v = view(record, d, k);
        return v == null ? NONE : may(v) ? 1 : 0;
    }

    boolean may(View v) {
        return new Way(v.ids, v.d, v.k).state == 1 && !v.dead && !v.fact("away", 0);
    }

    int ward(int ward, int d, int k, int what) {
        if (ward < -1 || ward > 19 || !isDay(d) || !isDay(k) || what < 0 || what > 2) {
            return NONE;
        }
        int n = 0;
        for (TreeSet<Integer> ids : persons(k).values()) {
            View v = new View(ids, d, k);
            int state = new Way(ids, d, k).state;
            boolean counts = what == 0 ? state == 1 : what == 1 ? state == 2 : may(v);
            n += counts && (ward == NONE || v.ward() == ward) ? 1 : 0;
        }
        return n;
    }

    int tried(int d, int k, int what) {
        if (!isDay(d) || !isDay(k) || what < 0 || what > 3) {
            return NONE;
        }
        int[] n = new int[4];
        for (TreeSet<Integer> ids : persons(k).values()) {
            int truth = NONE;
            for (Act a : actsOf(ids, k)) {
                truth = a.sort >= 4 ? a.sort : truth;
            }
            if (truth != NONE && new Way(ids, d, k).state == 1) {
                n[(cause.holds(new View(ids, d, k)) ? 0 : 2) + truth - 4]++;
            }
        }
        return n[what];
    }

    // ---- draws

    static BigInteger choose(int n, int k) {
        if (k < 0 || k > n) {
            return BigInteger.ZERO;
        }
        BigInteger c = BigInteger.ONE;
        for (int i = 1; i <= k; i++) {
            c = c.multiply(BigInteger.valueOf(n - k + i)).divide(BigInteger.valueOf(i));
        }
        return c;
    }

    int doors(int ward, int n, int drawn, int missing) {
        if (ward < 0 || ward > 19 || n < 1 || n > 60 || drawn < 0 || drawn > n || missing < 0 || missing > drawn) {
            return refused(-1);
        }
        doors.put(ward, new int[] {n, drawn, missing});
        return well(0);
    }

    int missing(int ward, int what) {
        if (ward == NONE) {
            if (what != 2 || doors.isEmpty()) {
                return NONE;
            }
            int sum = 0;
            for (int w : doors.keySet()) {
                sum += missing(w, 2);
            }
            return sum;
        }
        if (!doors.containsKey(ward) || what < 0 || what > 2) {
            return NONE;
        }
        int n = doors.get(ward)[0];
        int m = doors.get(ward)[1];
        int k = doors.get(ward)[2];
        if (what == 2) {
            return m == 0 ? 0 : (int) Math.floor((double) n * k / m + 0.5);
        }
        int least = NONE;
        int most = NONE;
        for (int x = k; x <= n - m + k; x++) {
            BigInteger low = BigInteger.ZERO;
            BigInteger high = BigInteger.ZERO;
            for (int i = 0; i <= m; i++) {
                BigInteger ways = choose(x, i).multiply(choose(n - x, m - i));
                low = i <= k ? low.add(ways) : low;
                high = i >= k ? high.add(ways) : high;
            }
            BigInteger twenty = BigInteger.valueOf(20);
            if (low.multiply(twenty).compareTo(choose(n, m)) >= 0) {
                most = x;
            }
            if (least == NONE && high.multiply(twenty).compareTo(choose(n, m)) >= 0) {
                least = x;
            }
        }
        return what == 0 ? least : most;
    }

    long luck(int n1, int a1, int n2, int a2, int what) {
        if (n1 < 0 || n1 > 30 || n2 < 0 || n2 > 30 || a1 < 0 || a1 > n1 || a2 < 0 || a2 > n2 || what < 0 || what > 1) {
            return NONE;
        }
        BigInteger ways = BigInteger.ZERO;
        for (int i = a1; i <= n1; i++) {
            ways = ways.add(choose(n1, i).multiply(choose(n2, a1 + a2 - i)));
        }
        return lowest(ways, choose(n1 + n2, a1 + a2))[what].longValueExact();
    }

    // ---- letters and knocks

    int chances(int sort, int letter, int knock) {
        if (sort < 0 || sort > 3 || letter < 0 || letter > 1000 || knock < 0 || knock > 1000) {
            return refused(-1);
        }
        letterChance[sort] = letter;
        knockChance[sort] = knock;
        return well(0);
    }

    int costs(int letter, int knock) {
        if (letter < 0 || letter > 1000 || knock < 0 || knock > 1000) {
            return refused(-1);
        }
        letterCost = letter;
        knockCost = knock;
        return well(0);
    }

    int wish(int record) {
        if (!has(record)) {
            return refused(-2);
        }
        if (wishes.contains(record)) {
            return refused(-4);
        }
        if (wishes.size() == 16) {
            return refused(-5);
        }
        wishes.add(record);
        return well(wishes.size());
    }

    int clear() {
        int n = wishes.size();
        wishes.clear();
        return n;
    }

    int caseOf(int wish, int d, int k) {
        if (wish < 0 || wish >= wishes.size() || !isDay(d) || !isDay(k)) {
            return NONE;
        }
        View v = view(wishes.get(wish), d, k);
        if (v == null) {
            return 3;
        }
        int c = v.heard != NONE && v.heard >= d - 365 ? 0 : 1;
        c = v.abroadRec != null ? 2 : c;
        return v.home == NONE ? 3 : c;
    }

    private int[] tryRow, bestRow;
    private int bestChance, bestCost;
    private int[] tryCases;

    /** Every row is looked at, in the order of rows: the first of the best stays. */
    int plan(int purse, int d, int k) {
        if (purse < 0 || purse > 10000 || !isDay(d) || !isDay(k)) {
            return NONE;
        }
        int n = wishes.size();
        tryRow = new int[n];
        tryCases = new int[n];
        for (int i = 0; i < n; i++) {
            tryCases[i] = caseOf(i, d, k);
        }
        bestChance = -1;
        tryRows(0, 0, 0, purse);
        plannedRow = bestRow;
        plannedCost = bestCost;
        return bestChance;
    }

    private void tryRows(int i, int chance, int cost, int purse) {
        if (cost > purse) {
            return;
        }
        if (i == tryRow.length) {
            if (chance > bestChance || chance == bestChance && cost < bestCost) {
                bestChance = chance;
                bestCost = cost;
                bestRow = tryRow.clone();
            }
            return;
        }
        int c = tryCases[i];
        for (int a = 0; a < 3; a++) {
            tryRow[i] = a;
            tryRows(i + 1, chance + (a == 0 ? 0 : a == 1 ? letterChance[c] : knockChance[c]),
                    cost + (a == 0 ? 0 : a == 1 ? letterCost : knockCost), purse);
        }
    }

    int planned(int wish) {
        if (wish == NONE) {
            return plannedCost;
        }
        return plannedRow == null || wish < 0 || wish >= plannedRow.length ? NONE : plannedRow[wish];
    }

    int count(int what) {
        int[] all = {records.size(), folds.size(), clauses, causeFacts, acts.size(), votes.size(), wishes.size(),
            tape.length()};
        return what < 0 || what > 7 ? NONE : all[what];
    }
}
