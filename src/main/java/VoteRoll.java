/**
 * A roll of those who may vote. The document's promises are met by the public methods; each looks at
 * its arguments first and hands the work to one of the classes inside. These make their rows once;
 * only the rows of names and of pairs grow, by doubling, since most rolls are small and all rolls of
 * a run share one room.
 */
public final class VoteRoll {
    public static final int NONE = -1;

    private static final int LAST_DAY = 40000;
    private static final int LAST_PLACE = 999;
    private static final int PLACES_OF_WARD = 50;
    private static final int WARDS = 20;
    private static final int LISTS = 8;
    private static final int SORTS = 7;
    private static final int LAST_NUMBER = 9999;
    private static final int LAST_PURSE = 10000;
    private static final int THOUSAND = 1000;
    private static final int CASES = 4;
    private static final int UNHOUSED = 3;

    private static final int WRONG_NUMBER = -1;
    private static final int NO_RECORD = -2;
    private static final int TWICE = -4;
    private static final int NO_ROOM = -5;
    private static final int WRONG_TEXT = -6;
    private static final int HIDDEN_HOME = NONE - 1;

    private final Tape tape;
    private final Folds liveFolds;
    private final Folds draftFolds;
    private final Law liveLaw;
    private final Law draftLaw;
    private final Book book;
    private final Acts acts;
    private final Odds chancesOfPairs;
    private final Persons persons;
    private final Facts facts;
    private final Line lineOfPerson;
    private final Draws draws;
    private final Plan planner;
    private int faultPlace;
    private int refusal;

    public VoteRoll() {
        tape = new Tape();
        liveFolds = new Folds();
        draftFolds = new Folds();
        liveLaw = new Law();
        draftLaw = new Law();
        book = new Book();
        acts = new Acts();
        chancesOfPairs = new Odds(book);
        persons = new Persons(book, chancesOfPairs);
        facts = new Facts(book, acts, persons, liveLaw);
        lineOfPerson = new Line(book, acts, facts, liveLaw);
        draws = new Draws();
        planner = new Plan();
        faultPlace = NONE;
        refusal = 0;
    }

    public int feed(int a, int b, int c, int d, int e) {
        if (tape.size > Tape.ROOM - 20) {
            return NONE;
        }
        tape.put(a);
        tape.put(b);
        tape.put(c);
        tape.put(d);
        tape.put(e);
        return tape.size;
    }

    public int end(int n) {
        if (n < 0 || n > tape.size) {
            return NONE;
        }
        tape.size = n;
        return n;
    }

    public int folds() {
        faultPlace = draftFolds.readFrom(tape);
        tape.size = 0;
        if (faultPlace != NONE) {
            return refuse(WRONG_TEXT);
        }
        liveFolds.copyOf(draftFolds);
        for (int i = 0; i < book.size; i++) {
            book.foldNames(i, liveFolds);
        }
        chancesOfPairs.likened = 0;
        persons.forget();
        return accept(liveFolds.pairs);
    }

    public int law() {
        faultPlace = draftLaw.readFrom(tape);
        tape.size = 0;
        if (faultPlace != NONE) {
            return refuse(WRONG_TEXT);
        }
        liveLaw.copyOf(draftLaw);
        return accept(liveLaw.clauses);
    }

    public int fault() {
        return faultPlace;
    }

    public int record(int list, int sort, int birth, int place, int number, int day, int known) {
        boolean rightKind = within(list, 0, LISTS - 1) && within(sort, 0, SORTS - 1);
        boolean rightPerson = within(birth, NONE, LAST_DAY) && within(number, NONE, LAST_NUMBER);
        boolean rightPlace = within(place, Book.needsPlace(sort) ? 0 : NONE, LAST_PLACE);
        if (!rightKind || !rightPerson || !rightPlace || !isDay(day) || !isDay(known)) {
            return refuse(WRONG_NUMBER);
        }
        if (book.size >= Book.ROOM) {
            return refuse(NO_ROOM);
        }
        faultPlace = book.readNames(tape);
        tape.size = 0;
        if (faultPlace != NONE) {
            return refuse(WRONG_TEXT);
        }
        int fresh = book.size;
        book.list[fresh] = list;
        book.sort[fresh] = sort;
        book.birth[fresh] = birth;
        book.place[fresh] = place;
        book.number[fresh] = number;
        book.day[fresh] = day;
        book.known[fresh] = known;
        book.foldNames(fresh, liveFolds);
        book.putInOrder();
        persons.forget();
        return accept(fresh);
    }

    public int folded(int record, int which, int i) {
        if (!book.holds(record) || !within(which, 0, 1)) {
            return NONE;
        }
        int size = book.foldedSize[2 * record + which];
        if (i == NONE) {
            return size;
        }
        return within(i, 0, size - 1) ? book.foldedNames[Book.foldedPlace(record, which) + i] : NONE;
    }

    public int field(int field, int m, int u) {
        if (!within(field, 0, Odds.FIELDS - 1) || !within(m, 1, 99) || !within(u, 1, 99)) {
            return refuse(WRONG_NUMBER);
        }
        chancesOfPairs.sameAgree[field] = m;
        chancesOfPairs.otherAgree[field] = u;
        persons.forget();
        return accept(0);
    }

    public int terms(int slack, int a, int b, int x, int y, int once) {
        boolean rightPrior = within(a, 1, THOUSAND) && within(b, 1, THOUSAND);
        boolean rightBound = within(x, 1, THOUSAND) && within(y, 1, THOUSAND);
        if (!within(slack, 0, Odds.MOST_SLACK) || !rightPrior || !rightBound
                || !within(once, 0, (1 << LISTS) - 1)) {
            return refuse(WRONG_NUMBER);
        }
        chancesOfPairs.slack = slack;
        chancesOfPairs.priorUpper = a;
        chancesOfPairs.priorLower = b;
        chancesOfPairs.boundUpper = x;
        chancesOfPairs.boundLower = y;
        persons.once = once;
        persons.forget();
        return accept(0);
    }

    public long odds(int a, int b, int what) {
        if (!book.holds(a) || !book.holds(b) || a == b || !within(what, 0, 4)) {
            return NONE;
        }
        chancesOfPairs.likenAll();
        int kind = chancesOfPairs.kindOf(Math.min(a, b), Math.max(a, b));
        chancesOfPairs.weigh(kind);
        switch (what) {
            case 0:
                return chancesOfPairs.upper;
            case 1:
            case 2:
                // in lowest terms the chance of two persons is lower to upper + lower
                return chancesOfPairs.lower;
            case 3:
                return chancesOfPairs.upper + chancesOfPairs.lower;
            default:
                return Odds.agreeing(kind);
        }
    }

    public int person(int record, int known) {
        if (!book.holds(record) || !isDay(known)) {
            return NONE;
        }
        persons.divide(known);
        return persons.named[record];
    }

    public int joined(int known, int what) {
        if (!isDay(known) || !within(what, 0, 1)) {
            return NONE;
        }
        persons.divide(known);
        return what == 0 ? persons.size : persons.quarrels;
    }

    public int of(int record, int day, int known, int what) {
        if (!within(what, 0, 6) || !lookAt(record, day, known)) {
            return NONE;
        }
        switch (what) {
            case 0:
                return facts.born;
            case 1:
                return facts.homeHidden() ? HIDDEN_HOME : facts.home;
            case 2:
                return facts.abroadSince();
            case 3:
                return facts.dead ? 1 : 0;
            case 4:
                return facts.heard;
            case 5:
                return facts.askedWard();
            default:
                return facts.size;
        }
    }

    public int led(int record, int day, int known, int what) {
        if (!within(what, 1, 5) || !lookAt(record, day, known)) {
            return NONE;
        }
        switch (what) {
            case 1:
                return facts.homeRecord;
            case 2:
                return facts.abroadRecord;
            case 3:
                return facts.deathRecord;
            case 5:
                return facts.askedRecord;
            default:
                return NONE;
        }
    }

    public int hide(int record) {
        if (!book.holds(record)) {
            return refuse(NO_RECORD);
        }
        if (book.hidden[record]) {
            return refuse(TWICE);
        }
        book.hidden[record] = true;
        return accept(0);
    }

    public int act(int record, int sort, int day, int known) {
        if (!within(sort, 0, Acts.SORTS - 1) || !isDay(day) || !isDay(known)) {
            return refuse(WRONG_NUMBER);
        }
        if (!book.holds(record)) {
            return refuse(NO_RECORD);
        }
        if (acts.size >= Acts.ROOM) {
            return refuse(NO_ROOM);
        }
        acts.add(record, sort, day, known);
        return accept(acts.size);
    }

    public int vote(int day) {
        if (!isDay(day)) {
            return refuse(WRONG_NUMBER);
        }
        if (acts.hasVoteWithin(day, day)) {
            return refuse(TWICE);
        }
        if (acts.voteCount >= Acts.VOTES) {
            return refuse(NO_ROOM);
        }
        acts.votes[acts.voteCount] = day;
        acts.voteCount++;
        return accept(acts.voteCount);
    }

    public int cause(int record, int day, int known) {
        if (!lookAt(record, day, known)) {
            return NONE;
        }
        return facts.causeHolds() ? 1 : 0;
    }

    public int line(int record, int day, int known) {
        if (!lookAt(record, day, known)) {
            return NONE;
        }
        lineOfPerson.walk(day, NONE);
        return lineOfPerson.state;
    }

    public int since(int record, int day, int known) {
        if (!lookAt(record, day, known)) {
            return NONE;
        }
        lineOfPerson.walk(day, NONE);
        return lineOfPerson.sinceDay;
    }

    public int lacks(int act, int known) {
        if (!within(act, 0, acts.size - 1) || !isDay(known)) {
            return NONE;
        }
        if (acts.sort[act] != Acts.STRIKE || acts.known[act] > known) {
            return NONE;
        }
        if (!lookAt(acts.record[act], acts.day[act], known)) {
            return NONE;
        }
        lineOfPerson.walk(acts.day[act], act);
        return lineOfPerson.lack;
    }

    public int may(int record, int day, int known) {
        if (!lookAt(record, day, known)) {
            return NONE;
        }
        walkAndLook(day);
        return mayVote() ? 1 : 0;
    }

    public int ward(int ward, int day, int known, int what) {
        if (!within(ward, NONE, WARDS - 1) || !isDay(day) || !isDay(known) || !within(what, 0, 2)) {
            return NONE;
        }
        persons.divide(known);
        int found = 0;
        for (int i = 0; i < book.size; i++) {
            if (persons.named[i] == i) {
                facts.focus(i, known);
                walkAndLook(day);
                boolean there = ward == NONE || facts.askedWard() == ward;
                if (there && lineCounts(what)) {
                    found++;
                }
            }
        }
        return found;
    }

    public int tried(int day, int known, int what) {
        if (!isDay(day) || !isDay(known) || !within(what, 0, 3)) {
            return NONE;
        }
        int wantedTruth = what % 2 == 0 ? Acts.TRUTH_MAY : Acts.TRUTH_MAY_NOT;
        boolean wantedCause = what < 2;
        persons.divide(known);
        int found = 0;
        for (int i = 0; i < book.size; i++) {
            if (persons.named[i] == i && lastTruth(i, known) == wantedTruth) {
                facts.focus(i, known);
                walkAndLook(day);
                if (lineOfPerson.state == Line.IN && facts.causeHolds() == wantedCause) {
                    found++;
                }
            }
        }
        return found;
    }

    public int doors(int ward, int n, int drawn, int missing) {
        if (!within(ward, 0, WARDS - 1) || !within(n, 1, Draws.MOST)
                || !within(drawn, 0, n) || !within(missing, 0, drawn)) {
            return refuse(WRONG_NUMBER);
        }
        draws.doors[ward] = n;
        draws.drawn[ward] = drawn;
        draws.lacking[ward] = missing;
        return accept(0);
    }

    public int missing(int ward, int what) {
        if (ward == NONE) {
            return what == 2 ? draws.guessedOfAll() : NONE;
        }
        if (!within(ward, 0, WARDS - 1) || !within(what, 0, 2) || draws.doors[ward] == 0) {
            return NONE;
        }
        switch (what) {
            case 0:
                return draws.atLeast(ward);
            case 1:
                return draws.atMost(ward);
            default:
                return draws.guessed(ward);
        }
    }

    public long luck(int n1, int a1, int n2, int a2, int what) {
        boolean rightFirst = within(n1, 0, Draws.MOST_OF_HALF) && within(a1, 0, n1);
        boolean rightOther = within(n2, 0, Draws.MOST_OF_HALF) && within(a2, 0, n2);
        if (!rightFirst || !rightOther || !within(what, 0, 1)) {
            return NONE;
        }
        draws.tryHalf(n1, a1, n2, a2);
        return what == 0 ? draws.luckUpper : draws.luckLower;
    }

    public int chances(int sort, int letter, int knock) {
        if (!within(sort, 0, CASES - 1) || !within(letter, 0, THOUSAND) || !within(knock, 0, THOUSAND)) {
            return refuse(WRONG_NUMBER);
        }
        planner.letterChance[sort] = letter;
        planner.knockChance[sort] = knock;
        return accept(0);
    }

    public int costs(int letter, int knock) {
        if (!within(letter, 0, THOUSAND) || !within(knock, 0, THOUSAND)) {
            return refuse(WRONG_NUMBER);
        }
        planner.letterCost = letter;
        planner.knockCost = knock;
        return accept(0);
    }

    public int wish(int record) {
        if (!book.holds(record)) {
            return refuse(NO_RECORD);
        }
        if (planner.wishes(record)) {
            return refuse(TWICE);
        }
        if (planner.size >= Plan.ROOM) {
            return refuse(NO_ROOM);
        }
        planner.wished[planner.size] = record;
        planner.size++;
        return accept(planner.size);
    }

    public int clear() {
        int before = planner.size;
        planner.size = 0;
        return before;
    }

    public int caseOf(int wish, int day, int known) {
        if (!within(wish, 0, planner.size - 1) || !isDay(day) || !isDay(known)) {
            return NONE;
        }
        return lookAt(planner.wished[wish], day, known) ? presentCase(day) : UNHOUSED;
    }

    public int plan(int purse, int day, int known) {
        if (!within(purse, 0, LAST_PURSE) || !isDay(day) || !isDay(known)) {
            return NONE;
        }
        for (int i = 0; i < planner.size; i++) {
            planner.wishCase[i] = lookAt(planner.wished[i], day, known) ? presentCase(day) : UNHOUSED;
        }
        planner.spend(purse);
        return planner.bestChance;
    }

    public int planned(int wish) {
        if (wish == NONE) {
            return planner.bestCost;
        }
        return within(wish, 0, planner.plannedSize - 1) ? planner.chosen[wish] : NONE;
    }

    public int count(int what) {
        switch (what) {
            case 0:
                return book.size;
            case 1:
                return liveFolds.pairs;
            case 2:
                return liveLaw.clauses;
            case 3:
                return liveLaw.causeFacts;
            case 4:
                return acts.size;
            case 5:
                return acts.voteCount;
            case 6:
                return planner.size;
            case 7:
                return tape.size;
            default:
                return NONE;
        }
    }

    public int status() {
        return refusal;
    }

    private static boolean within(int number, int least, int most) {
        return number >= least && number <= most;
    }

    private static boolean isDay(int day) {
        return within(day, 0, LAST_DAY);
    }

    private static long commonDivisor(long a, long b) {
        long left = a;
        long right = b;
        // Euclid's steps at least halve every second time: a long has them in fewer than 130
        for (int i = 0; i < 200 && right != 0; i++) {
            long rest = left % right;
            left = right;
            right = rest;
        }
        return left;
    }

    private int refuse(int why) {
        refusal = why;
        return why;
    }

    private int accept(int answer) {
        refusal = 0;
        return answer;
    }

    /** Turns the facts to the PERSON of a RECORD; false, if there is none or a DAY can't be. */
    private boolean lookAt(int record, int day, int known) {
        if (!isDay(day) || !isDay(known) || !book.holds(record)) {
            return false;
        }
        persons.divide(known);
        int name = persons.named[record];
        if (name == NONE) {
            return false;
        }
        facts.focus(name, known);
        facts.lookOn(day);
        return true;
    }

    private void walkAndLook(int day) {
        lineOfPerson.walk(day, NONE);
        // the walk looked at other days on its way
        facts.lookOn(day);
    }

    private boolean mayVote() {
        return lineOfPerson.state == Line.IN && !facts.dead && !facts.away();
    }

    private boolean lineCounts(int what) {
        if (what == 2) {
            return mayVote();
        }
        return lineOfPerson.state == (what == 0 ? Line.IN : Line.STRUCK);
    }

    private int lastTruth(int name, int known) {
        for (int i = acts.size - 1; i >= 0; i--) {
            boolean truth = acts.sort[i] == Acts.TRUTH_MAY || acts.sort[i] == Acts.TRUTH_MAY_NOT;
            if (truth && acts.known[i] <= known && persons.named[acts.record[i]] == name) {
                return acts.sort[i];
            }
        }
        return NONE;
    }

    private int presentCase(int day) {
        if (facts.home == NONE) {
            return UNHOUSED;
        }
        if (facts.abroadRecord != NONE) {
            return 2;
        }
        return facts.heard != NONE && day - facts.heard <= 365 ? 0 : 1;
    }

    /** The bytes of a TEXT, and the TOKEN at which its reader stands. */
    private static final class Tape {
        static final int ROOM = 400;
        static final int END = 0;
        static final int LETTERS = 1;
        static final int DIGITS = 2;
        static final int OTHER = 3;
        private static final int BLANK = 32;
        private static final int TOO_MUCH = 1000000;

        final int[] bytes;
        int size;
        int kind;
        int from;
        int to;

        Tape() {
            bytes = new int[ROOM];
        }

        void put(int four) {
            for (int shift = 24; shift >= 0 && size < ROOM; shift -= 8) {
                bytes[size] = (four >> shift) & 255;
                size++;
            }
        }

        void rewind() {
            to = 0;
            step();
        }

        void step() {
            int at = to;
            while (at < size && bytes[at] == BLANK) {
                at++;
            }
            from = at;
            kind = kindAt(at);
            if (kind == LETTERS || kind == DIGITS) {
                while (at < size && kindAt(at) == kind) {
                    at++;
                }
            } else if (kind == OTHER) {
                at++;
            }
            to = at;
        }

        private int kindAt(int at) {
            if (at >= size) {
                return END;
            }
            int sign = bytes[at];
            if (sign >= 'a' && sign <= 'z') {
                return LETTERS;
            }
            return sign >= '0' && sign <= '9' ? DIGITS : OTHER;
        }

        boolean isWord(String word) {
            if (kind != LETTERS || to - from != word.length()) {
                return false;
            }
            for (int i = 0; i < word.length(); i++) {
                if (bytes[from + i] != word.charAt(i)) {
                    return false;
                }
            }
            return true;
        }

        boolean isSign(char sign) {
            return kind == OTHER && bytes[from] == sign;
        }

        boolean isRow(int most) {
            return kind == LETTERS && to - from <= most;
        }

        /** The number at which it stands, or NONE if there is none from least to most. */
        int numberWithin(int least, int most) {
            if (kind != DIGITS) {
                return NONE;
            }
            int value = 0;
            for (int i = from; i < to; i++) {
                // a row may have 400 digits: it need only stay too much
                value = Math.min(10 * value + bytes[i] - '0', TOO_MUCH);
            }
            return within(value, least, most) ? value : NONE;
        }
    }

    /** The table by which names in other letters are folded. */
    private static final class Folds {
        static final int ROOM = 16;
        static final int MOST_LETTERS = 3;

        final byte[] left;
        final byte[] right;
        final int[] leftSize;
        final int[] rightSize;
        int pairs;

        Folds() {
            left = new byte[ROOM * MOST_LETTERS];
            right = new byte[ROOM * MOST_LETTERS];
            leftSize = new int[ROOM];
            rightSize = new int[ROOM];
        }

        /** The place of the FAULT, or NONE. */
        int readFrom(Tape tape) {
            pairs = 0;
            tape.rewind();
            if (tape.kind == Tape.END) {
                return NONE;
            }
            for (int i = 0; i < ROOM; i++) {
                if (!readPair(tape)) {
                    return tape.from;
                }
                if (tape.kind == Tape.END) {
                    return NONE;
                }
                if (!tape.isSign(',')) {
                    return tape.from;
                }
                tape.step();
            }
            return tape.from;
        }

        private boolean readPair(Tape tape) {
            if (!tape.isRow(MOST_LETTERS)) {
                return false;
            }
            leftSize[pairs] = readRow(tape, left);
            if (!tape.isSign('>')) {
                return false;
            }
            tape.step();
            rightSize[pairs] = 0;
            if (tape.kind == Tape.LETTERS) {
                if (!tape.isRow(MOST_LETTERS)) {
                    return false;
                }
                rightSize[pairs] = readRow(tape, right);
            }
            pairs++;
            return true;
        }

        private int readRow(Tape tape, byte[] into) {
            int size = tape.to - tape.from;
            for (int i = 0; i < size; i++) {
                into[pairs * MOST_LETTERS + i] = (byte) tape.bytes[tape.from + i];
            }
            tape.step();
            return size;
        }

        void copyOf(Folds other) {
            pairs = other.pairs;
            System.arraycopy(other.left, 0, left, 0, left.length);
            System.arraycopy(other.right, 0, right, 0, right.length);
            System.arraycopy(other.leftSize, 0, leftSize, 0, ROOM);
            System.arraycopy(other.rightSize, 0, rightSize, 0, ROOM);
        }

        /** Folds the letters name[from .. to) into a row at a place: how many letters come out. */
        int foldInto(byte[] name, int from, int to, byte[] row, int place) {
            int at = from;
            int size = 0;
            // the left LETTERS are at least one, so there are no more steps than letters
            for (int step = from; step < to && at < to; step++) {
                int pair = fitting(name, at, to);
                if (pair == NONE) {
                    row[place + size] = name[at];
                    size++;
                    at++;
                } else {
                    for (int i = 0; i < rightSize[pair]; i++) {
                        row[place + size] = right[pair * MOST_LETTERS + i];
                        size++;
                    }
                    at += leftSize[pair];
                }
            }
            return size;
        }

        private int fitting(byte[] name, int at, int to) {
            for (int pair = 0; pair < pairs; pair++) {
                boolean fits = leftSize[pair] <= to - at;
                for (int i = 0; fits && i < leftSize[pair]; i++) {
                    fits = name[at + i] == left[pair * MOST_LETTERS + i];
                }
                if (fits) {
                    return pair;
                }
            }
            return NONE;
        }
    }

    /** The LAW: its numbers, and the CAUSE as a row in which what is joined comes ahead of its joint. */
    private static final class Law {
        static final int AGE = 0;
        static final int PROOF = 1;
        static final int NOTICE = 2;
        static final int DAYS = 3;
        static final int QUIET = 4;
        static final int APPEAL = 5;
        static final int NODOOR = 6;
        static final int ABROAD = 7;
        private static final int[] LEAST = {0, 1, 0, 0, 0, 0, 0, 0};
        private static final int[] MOST = {40000, 8, 40000, 40000, 40000, 40000, 999, 40000};
        private static final int[] WITHOUT = {6570, 1, 1, 30, 90, 60, NONE, 5000};

        static final int DEAD = 0;
        static final int MOVED = 1;
        static final int NOHOME = 2;
        static final int DOUBLE = 3;
        static final int YOUNG = 4;
        static final int AWAY = 5;
        static final int SILENT = 6;
        static final int WARD = 7;
        static final int NOT = 8;
        static final int AND = 9;
        static final int OR = 10;
        private static final int MOST_CLAUSES = 20;
        private static final int MOST_FACTS = 40;
        private static final int MOST_WITHIN = 10;

        final int[] values;
        final int[] code;
        int codeSize;
        int clauses;
        int causeFacts;
        private int allFacts;

        Law() {
            values = WITHOUT.clone();
            code = new int[Tape.ROOM];
        }

        void copyOf(Law other) {
            System.arraycopy(other.values, 0, values, 0, values.length);
            System.arraycopy(other.code, 0, code, 0, other.codeSize);
            codeSize = other.codeSize;
            clauses = other.clauses;
            causeFacts = other.causeFacts;
        }

        /** The place of the FAULT, or NONE. */
        int readFrom(Tape tape) {
            System.arraycopy(WITHOUT, 0, values, 0, values.length);
            codeSize = 0;
            clauses = 0;
            causeFacts = 0;
            allFacts = 0;
            tape.rewind();
            if (tape.kind == Tape.END) {
                return NONE;
            }
            for (int i = 0; i < MOST_CLAUSES; i++) {
                if (!readClause(tape)) {
                    return tape.from;
                }
                clauses++;
                if (tape.kind == Tape.END) {
                    return NONE;
                }
                if (!tape.isSign(';')) {
                    return tape.from;
                }
                tape.step();
            }
            return tape.from;
        }

        private boolean readClause(Tape tape) {
            if (tape.isWord("strike")) {
                tape.step();
                if (!tape.isWord("if")) {
                    return false;
                }
                tape.step();
                // the last CAUSE alone counts
                codeSize = 0;
                causeFacts = 0;
                return readCause(tape, 0);
            }
            int kind = clauseKind(tape);
            if (kind == NONE) {
                return false;
            }
            tape.step();
            if (!readValue(tape, kind)) {
                return false;
            }
            if (kind != NOTICE) {
                return true;
            }
            if (!tape.isWord("days")) {
                return false;
            }
            tape.step();
            return readValue(tape, DAYS);
        }

        private static int clauseKind(Tape tape) {
            for (int kind = AGE; kind <= ABROAD; kind++) {
                if (kind != DAYS && tape.isWord(clauseWord(kind))) {
                    return kind;
                }
            }
            return NONE;
        }

        private static String clauseWord(int kind) {
            switch (kind) {
                case AGE:
                    return "age";
                case PROOF:
                    return "proof";
                case NOTICE:
                    return "notice";
                case QUIET:
                    return "quiet";
                case APPEAL:
                    return "appeal";
                case NODOOR:
                    return "nodoor";
                default:
                    return "abroad";
            }
        }

        private boolean readValue(Tape tape, int kind) {
            int value = tape.numberWithin(LEAST[kind], MOST[kind]);
            if (value == NONE) {
                return false;
            }
            values[kind] = value;
            tape.step();
            return true;
        }

        private boolean readCause(Tape tape, int depth) {
            if (!readFact(tape, depth)) {
                return false;
            }
            boolean openOr = false;
            for (int i = 0; i < Tape.ROOM && (tape.isWord("and") || tape.isWord("or")); i++) {
                boolean both = tape.isWord("and");
                // "and" binds closer: an "or" is put down only when the next one or the end comes
                if (!both && openOr) {
                    emit(OR, 0);
                }
                openOr |= !both;
                tape.step();
                if (!readFact(tape, depth)) {
                    return false;
                }
                if (both) {
                    emit(AND, 0);
                }
            }
            if (openOr) {
                emit(OR, 0);
            }
            return true;
        }

        private boolean readFact(Tape tape, int depth) {
            boolean turned = false;
            for (int i = 0; i < Tape.ROOM && tape.isWord("not"); i++) {
                turned = !turned;
                tape.step();
            }
            boolean well = tape.isSign('(') ? readWithin(tape, depth) : readPlain(tape);
            if (well && turned) {
                emit(NOT, 0);
            }
            return well;
        }

        private boolean readWithin(Tape tape, int depth) {
            if (depth >= MOST_WITHIN) {
                return false;
            }
            tape.step();
            if (!readCause(tape, depth + 1) || !tape.isSign(')')) {
                return false;
            }
            tape.step();
            return true;
        }

        private boolean readPlain(Tape tape) {
            int kind = DEAD;
            while (kind <= WARD && !tape.isWord(factWord(kind))) {
                kind++;
            }
            if (kind > WARD || allFacts >= MOST_FACTS) {
                return false;
            }
            tape.step();
            int number = 0;
            if (kind == SILENT || kind == WARD) {
                number = tape.numberWithin(0, kind == WARD ? WARDS - 1 : LAST_DAY);
                if (number == NONE) {
                    return false;
                }
                tape.step();
            }
            allFacts++;
            causeFacts++;
            emit(kind, number);
            return true;
        }

        private static String factWord(int kind) {
            switch (kind) {
                case DEAD:
                    return "dead";
                case MOVED:
                    return "moved";
                case NOHOME:
                    return "nohome";
                case DOUBLE:
                    return "double";
                case YOUNG:
                    return "young";
                case AWAY:
                    return "away";
                case SILENT:
                    return "silent";
                default:
                    return "ward";
            }
        }

        private void emit(int kind, int number) {
            // each kind has a TOKEN of its own in the TEXT, so the room is never short
            if (codeSize < code.length) {
                code[codeSize] = 16 * number + kind;
                codeSize++;
            }
        }
    }

    /** The RECORDS, and their order by DAYS. */
    private static final class Book {
        static final int ROOM = 120;
        static final int PAIRS = ROOM * (ROOM - 1) / 2;
        static final int LIVES = 0;
        static final int MOVED = 1;
        static final int DEAD = 2;
        static final int ABROAD = 3;
        static final int NO_DOOR = 4;
        static final int ASKS = 5;
        private static final int FIRST_ROOM = 8;
        private static final int LETTERS = 12;
        private static final int FOLDED_LETTERS = LETTERS * Folds.MOST_LETTERS;

        final int[] list;
        final int[] sort;
        final int[] birth;
        final int[] place;
        final int[] number;
        final int[] day;
        final int[] known;
        final boolean[] hidden;
        final int[] byDay;
        private byte[] toldNames;
        final int[] toldSize;
        byte[] foldedNames;
        final int[] foldedSize;
        int size;

        Book() {
            list = new int[ROOM];
            sort = new int[ROOM];
            birth = new int[ROOM];
            place = new int[ROOM];
            number = new int[ROOM];
            day = new int[ROOM];
            known = new int[ROOM];
            hidden = new boolean[ROOM];
            byDay = new int[ROOM];
            toldNames = new byte[2 * FIRST_ROOM * LETTERS];
            toldSize = new int[2 * ROOM];
            foldedNames = new byte[2 * FIRST_ROOM * FOLDED_LETTERS];
            foldedSize = new int[2 * ROOM];
        }

        static boolean needsPlace(int sort) {
            return sort == LIVES || sort == MOVED || sort == ASKS;
        }

        static boolean tellsHome(int sort) {
            return needsPlace(sort) || sort == NO_DOOR;
        }

        static int foldedPlace(int record, int which) {
            return (2 * record + which) * FOLDED_LETTERS;
        }

        boolean holds(int record) {
            return record >= 0 && record < size;
        }

        private void makeRoomForNames() {
            int room = toldNames.length / (2 * LETTERS);
            if (size < room) {
                return;
            }
            byte[] told = new byte[2 * toldNames.length];
            System.arraycopy(toldNames, 0, told, 0, toldNames.length);
            toldNames = told;
            byte[] folded = new byte[2 * foldedNames.length];
            System.arraycopy(foldedNames, 0, folded, 0, foldedNames.length);
            foldedNames = folded;
        }

        /** Reads the names of the RECORD that comes next: the place of the FAULT, or NONE. */
        int readNames(Tape tape) {
            makeRoomForNames();
            tape.rewind();
            if (!readName(tape, 2 * size)) {
                return tape.from;
            }
            if (!tape.isSign(',')) {
                return tape.from;
            }
            tape.step();
            if (!readName(tape, 2 * size + 1) || tape.kind != Tape.END) {
                return tape.from;
            }
            return NONE;
        }

        private boolean readName(Tape tape, int name) {
            toldSize[name] = 0;
            if (tape.kind != Tape.LETTERS) {
                return true;
            }
            if (!tape.isRow(LETTERS)) {
                return false;
            }
            int letters = tape.to - tape.from;
            for (int i = 0; i < letters; i++) {
                toldNames[name * LETTERS + i] = (byte) tape.bytes[tape.from + i];
            }
            toldSize[name] = letters;
            tape.step();
            return true;
        }

        void foldNames(int record, Folds folds) {
            for (int name = 2 * record; name <= 2 * record + 1; name++) {
                int from = name * LETTERS;
                foldedSize[name] = folds.foldInto(toldNames, from, from + toldSize[name],
                        foldedNames, name * FOLDED_LETTERS);
            }
        }

        /** Puts the RECORD that has just been written behind those of its DAY. */
        void putInOrder() {
            int at = size;
            while (at > 0 && day[byDay[at - 1]] > day[size]) {
                byDay[at] = byDay[at - 1];
                at--;
            }
            byDay[at] = size;
            size++;
        }
    }

    /** The ACTS with their order by DAYS, and the VOTES. */
    private static final class Acts {
        static final int ROOM = 200;
        static final int VOTES = 12;
        static final int SORTS = 6;
        static final int NOTICE = 0;
        static final int ANSWER = 1;
        static final int STRIKE = 2;
        static final int APPEAL = 3;
        static final int TRUTH_MAY = 4;
        static final int TRUTH_MAY_NOT = 5;

        final int[] record;
        final int[] sort;
        final int[] day;
        final int[] known;
        final int[] byDay;
        final int[] votes;
        int size;
        int voteCount;

        Acts() {
            record = new int[ROOM];
            sort = new int[ROOM];
            day = new int[ROOM];
            known = new int[ROOM];
            byDay = new int[ROOM];
            votes = new int[VOTES];
        }

        void add(int aboutRecord, int ofSort, int onDay, int knownFrom) {
            record[size] = aboutRecord;
            sort[size] = ofSort;
            day[size] = onDay;
            known[size] = knownFrom;
            int at = size;
            while (at > 0 && day[byDay[at - 1]] > onDay) {
                byDay[at] = byDay[at - 1];
                at--;
            }
            byDay[at] = size;
            size++;
        }

        boolean hasVoteWithin(int first, int last) {
            for (int i = 0; i < voteCount; i++) {
                if (votes[i] >= first && votes[i] <= last) {
                    return true;
                }
            }
            return false;
        }
    }

    /** How alike two RECORDS are, and the ODDS by it that they are one person's. */
    private static final class Odds {
        static final int FIELDS = 5;
        static final int KINDS = 243;
        static final int MOST_SLACK = 3;
        private static final int AGREES = 0;
        private static final int DIFFERS = 1;
        private static final int UNKNOWN = 2;
        private static final int FAR = MOST_SLACK + 1;
        private static final int NAMELESS = FAR + 1;
        private static final int FIRST_PAIRS = 28;

        private final Book book;
        final int[] sameAgree;
        final int[] otherAgree;
        int slack;
        int priorUpper;
        int priorLower;
        int boundUpper;
        int boundLower;
        long upper;
        long lower;
        /** RECORDS whose likeness to all lower ones stands. */
        int likened;
        private short[] likeness;
        private final int[] above;
        private final int[] below;

        Odds(Book book) {
            this.book = book;
            sameAgree = new int[] {90, 90, 90, 90, 90};
            otherAgree = new int[] {10, 10, 10, 10, 10};
            priorUpper = 1;
            priorLower = 100;
            boundUpper = 1;
            boundLower = 1;
            likeness = new short[FIRST_PAIRS];
            above = new int[Book.FOLDED_LETTERS + 1];
            below = new int[Book.FOLDED_LETTERS + 1];
        }

        /** The likeness of names is kept as their DISTANCE, so that another SLACK leaves it standing. */
        void likenAll() {
            int needed = book.size * (book.size - 1) / 2;
            if (needed > likeness.length) {
                short[] more = new short[Math.min(2 * needed, Book.PAIRS)];
                System.arraycopy(likeness, 0, more, 0, likeness.length);
                likeness = more;
            }
            for (int j = likened; j < book.size; j++) {
                for (int i = 0; i < j; i++) {
                    int packed = nameLikeness(i, j, 0) + 6 * nameLikeness(i, j, 1)
                            + 36 * sameness(book.birth[i], book.birth[j])
                            + 108 * sameness(book.place[i], book.place[j])
                            + 324 * sameness(book.number[i], book.number[j]);
                    likeness[j * (j - 1) / 2 + i] = (short) packed;
                }
            }
            likened = book.size;
        }

        private static int sameness(int a, int b) {
            if (a == NONE || b == NONE) {
                return UNKNOWN;
            }
            return a == b ? AGREES : DIFFERS;
        }

        private int nameLikeness(int i, int j, int which) {
            if (book.toldSize[2 * i + which] == 0 || book.toldSize[2 * j + which] == 0) {
                return NAMELESS;
            }
            int first = Book.foldedPlace(i, which);
            int second = Book.foldedPlace(j, which);
            int firstSize = book.foldedSize[2 * i + which];
            int secondSize = book.foldedSize[2 * j + which];
            if (Math.abs(firstSize - secondSize) > MOST_SLACK) {
                return FAR;
            }
            return distance(first, firstSize, second, secondSize);
        }

        /** The DISTANCE, or FAR: cells further than MOST_SLACK from the slope can't matter. */
        private int distance(int first, int firstSize, int second, int secondSize) {
            for (int c = 0; c <= secondSize; c++) {
                above[c] = Math.min(c, FAR);
            }
            for (int r = 1; r <= firstSize; r++) {
                int from = Math.max(1, r - MOST_SLACK);
                int to = Math.min(secondSize, r + MOST_SLACK);
                below[from - 1] = from == 1 ? Math.min(r, FAR) : FAR;
                int letter = book.foldedNames[first + r - 1];
                for (int c = from; c <= to; c++) {
                    int changed = above[c - 1] + (letter == book.foldedNames[second + c - 1] ? 0 : 1);
                    // the last cell of the band has none above it in the band: FAR still stands there
                    int least = Math.min(changed, 1 + Math.min(above[c], below[c - 1]));
                    below[c] = Math.min(least, FAR);
                }
                for (int c = from - 1; c <= to; c++) {
                    above[c] = below[c];
                }
            }
            return above[secondSize];
        }

        /** The states of the five FIELDS of RECORDS i below j, as the digits of a number to base 3. */
        int kindOf(int i, int j) {
            int packed = likeness[j * (j - 1) / 2 + i];
            int family = nameState(packed % 6);
            int given = nameState(packed / 6 % 6);
            return family + 3 * given + 9 * (packed / 36);
        }

        private int nameState(int far) {
            if (far == NAMELESS) {
                return UNKNOWN;
            }
            return far <= slack ? AGREES : DIFFERS;
        }

        static int agreeing(int kind) {
            int rest = kind;
            int found = 0;
            for (int i = 0; i < FIELDS; i++) {
                if (rest % 3 == AGREES) {
                    found++;
                }
                rest /= 3;
            }
            return found;
        }

        /** Sets upper and lower to the ODDS of a kind in lowest terms. */
        void weigh(int kind) {
            long over = priorUpper;
            long under = priorLower;
            int rest = kind;
            for (int i = 0; i < FIELDS; i++) {
                int state = rest % 3;
                if (state == AGREES) {
                    over *= sameAgree[i];
                    under *= otherAgree[i];
                } else if (state == DIFFERS) {
                    over *= 100 - sameAgree[i];
                    under *= 100 - otherAgree[i];
                }
                rest /= 3;
            }
            long common = Math.max(1, commonDivisor(over, under));
            upper = over / common;
            lower = under / common;
        }

        boolean reachBound() {
            return upper * boundLower >= boundUpper * lower;
        }
    }

    /** RECORDS joined to PERSONS as known on a DAY. */
    private static final class Persons {
        private static final int UNSEEN = -1;
        private static final int UNJOINED = -2;

        private final Book book;
        private final Odds odds;
        private int[] pairs;
        private final int[] kindRank;
        private final int[] ranked;
        private final long[] rankUpper;
        private final long[] rankLower;
        private final int[] rankStart;
        private int rankedSize;
        private int pairCount;
        private boolean pairsStand;
        private int dividedOn;
        private final int[] masks;
        int once;
        /** The PERSON of each RECORD; NONE for one not known. */
        final int[] named;
        int size;
        int quarrels;

        Persons(Book book, Odds odds) {
            this.book = book;
            this.odds = odds;
            pairs = new int[Odds.FIRST_PAIRS];
            kindRank = new int[Odds.KINDS];
            ranked = new int[Odds.KINDS];
            rankUpper = new long[Odds.KINDS];
            rankLower = new long[Odds.KINDS];
            rankStart = new int[Odds.KINDS + 1];
            masks = new int[Book.ROOM];
            named = new int[Book.ROOM];
            dividedOn = NONE;
        }

        void forget() {
            pairsStand = false;
            dividedOn = NONE;
        }

        void divide(int known) {
            if (dividedOn == known) {
                return;
            }
            if (!pairsStand) {
                sortPairs();
            }
            dividedOn = known;
            quarrels = 0;
            size = 0;
            for (int i = 0; i < book.size; i++) {
                boolean there = book.known[i] <= known;
                named[i] = there ? i : NONE;
                masks[i] = (1 << book.list[i]) & once;
                size += there ? 1 : 0;
            }
            for (int p = 0; p < pairCount; p++) {
                tryPair(named[pairs[p] / Book.ROOM], named[pairs[p] % Book.ROOM]);
            }
        }

        private void tryPair(int one, int other) {
            if (one == NONE || other == NONE || one == other) {
                return;
            }
            if ((masks[one] & masks[other]) != 0) {
                quarrels++;
                return;
            }
            int low = Math.min(one, other);
            int high = Math.max(one, other);
            for (int i = high; i < book.size; i++) {
                if (named[i] == high) {
                    named[i] = low;
                }
            }
            masks[low] |= masks[high];
            size--;
        }

        /** Pairs that reach BOUND, the greatest ODDS first: counted by kinds, of which there are few. */
        private void sortPairs() {
            odds.likenAll();
            rankKinds();
            for (int r = 0; r <= rankedSize; r++) {
                rankStart[r] = 0;
            }
            for (int j = 1; j < book.size; j++) {
                for (int i = 0; i < j; i++) {
                    int rank = kindRank[odds.kindOf(i, j)];
                    if (rank >= 0) {
                        rankStart[rank + 1]++;
                    }
                }
            }
            for (int r = 0; r < rankedSize; r++) {
                rankStart[r + 1] += rankStart[r];
            }
            pairCount = rankStart[rankedSize];
            if (pairCount > pairs.length) {
                pairs = new int[Math.min(2 * pairCount, Book.PAIRS)];
            }
            for (int i = 0; i < book.size; i++) {
                for (int j = i + 1; j < book.size; j++) {
                    int rank = kindRank[odds.kindOf(i, j)];
                    if (rank >= 0) {
                        pairs[rankStart[rank]] = i * Book.ROOM + j;
                        rankStart[rank]++;
                    }
                }
            }
            pairsStand = true;
        }

        private void rankKinds() {
            for (int kind = 0; kind < Odds.KINDS; kind++) {
                kindRank[kind] = UNSEEN;
            }
            rankedSize = 0;
            for (int j = 1; j < book.size; j++) {
                for (int i = 0; i < j; i++) {
                    int kind = odds.kindOf(i, j);
                    if (kindRank[kind] == UNSEEN) {
                        kindRank[kind] = UNJOINED;
                        odds.weigh(kind);
                        if (odds.reachBound()) {
                            insertKind(kind, odds.upper, odds.lower);
                        }
                    }
                }
            }
            int rank = 0;
            for (int r = 0; r < rankedSize; r++) {
                // alike ODDS share a rank, so that the pairs' own order decides among them
                if (r > 0 && isGreater(rankUpper[r - 1], rankLower[r - 1], rankUpper[r], rankLower[r])) {
                    rank = r;
                }
                kindRank[ranked[r]] = rank;
            }
        }

        private void insertKind(int kind, long upper, long lower) {
            int at = rankedSize;
            while (at > 0 && isGreater(upper, lower, rankUpper[at - 1], rankLower[at - 1])) {
                ranked[at] = ranked[at - 1];
                rankUpper[at] = rankUpper[at - 1];
                rankLower[at] = rankLower[at - 1];
                at--;
            }
            ranked[at] = kind;
            rankUpper[at] = upper;
            rankLower[at] = lower;
            rankedSize++;
        }

        /** Whether a / b is above c / d; by whole parts and rests, since a product may be too long. */
        private static boolean isGreater(long a, long b, long c, long d) {
            long upper = a;
            long lower = b;
            long otherUpper = c;
            long otherLower = d;
            boolean turned = false;
            for (int i = 0; i < 200 && lower != 0 && otherLower != 0; i++) {
                long whole = upper / lower;
                long otherWhole = otherUpper / otherLower;
                if (whole != otherWhole) {
                    return (whole > otherWhole) != turned;
                }
                long rest = upper % lower;
                long otherRest = otherUpper % otherLower;
                upper = lower;
                lower = rest;
                otherUpper = otherLower;
                otherLower = otherRest;
                turned = !turned;
            }
            // a rest of nothing stands for endlessly much once it is turned over
            if (lower == 0 && otherLower == 0) {
                return false;
            }
            return (lower == 0) != turned;
        }
    }

    /** What is known of one PERSON as known on one DAY, looked at on any DAY. */
    private static final class Facts {
        private final Book book;
        private final Acts acts;
        private final Persons persons;
        private final Law law;
        /** Its RECORDS, and its ACTS known, each in order of DAYS. */
        final int[] records;
        int size;
        final int[] deeds;
        int deedCount;
        int born;
        private int day;
        int home;
        int homeRecord;
        int abroadRecord;
        boolean dead;
        int deathRecord;
        int heard;
        int askedRecord;
        private boolean doubled;

        Facts(Book book, Acts acts, Persons persons, Law law) {
            this.book = book;
            this.acts = acts;
            this.persons = persons;
            this.law = law;
            records = new int[Book.ROOM];
            deeds = new int[Acts.ROOM];
        }

        void focus(int name, int known) {
            size = 0;
            for (int i = 0; i < book.size; i++) {
                int record = book.byDay[i];
                if (persons.named[record] == name) {
                    records[size] = record;
                    size++;
                }
            }
            deedCount = 0;
            for (int i = 0; i < acts.size; i++) {
                int act = acts.byDay[i];
                if (acts.known[act] <= known && persons.named[acts.record[act]] == name) {
                    deeds[deedCount] = act;
                    deedCount++;
                }
            }
            born = mostlyBorn();
        }

        private int mostlyBorn() {
            int best = NONE;
            int most = 0;
            for (int i = 0; i < size; i++) {
                int birth = book.birth[records[i]];
                if (birth != NONE) {
                    int alike = 0;
                    for (int j = 0; j < size; j++) {
                        alike += book.birth[records[j]] == birth ? 1 : 0;
                    }
                    if (alike > most || alike == most && birth < best) {
                        best = birth;
                        most = alike;
                    }
                }
            }
            return best;
        }

        void lookOn(int onDay) {
            day = onDay;
            homeRecord = NONE;
            abroadRecord = NONE;
            deathRecord = NONE;
            askedRecord = NONE;
            heard = NONE;
            doubled = false;
            int deathLists = 0;
            for (int i = 0; i < size && book.day[records[i]] <= day; i++) {
                int record = records[i];
                int sort = book.sort[record];
                if (Book.tellsHome(sort)) {
                    heard = book.day[record];
                    homeRecord = record;
                    abroadRecord = NONE;
                }
                if (sort == Book.ABROAD) {
                    heard = book.day[record];
                    abroadRecord = record;
                } else if (sort == Book.DEAD) {
                    deathRecord = record;
                    deathLists |= 1 << book.list[record];
                } else if (sort == Book.ASKS) {
                    int wardBefore = askedWard();
                    askedRecord = record;
                    doubled |= wardBefore != NONE && wardBefore != askedWard();
                }
            }
            dead = Integer.bitCount(deathLists) >= law.values[Law.PROOF];
            home = homeOf(homeRecord);
            hearAnswers();
        }

        private void hearAnswers() {
            for (int i = 0; i < deedCount && acts.day[deeds[i]] <= day; i++) {
                if (acts.sort[deeds[i]] == Acts.ANSWER) {
                    heard = Math.max(heard, acts.day[deeds[i]]);
                }
            }
        }

        private int homeOf(int record) {
            if (record == NONE) {
                return NONE;
            }
            return book.sort[record] == Book.NO_DOOR ? law.values[Law.NODOOR] : book.place[record];
        }

        boolean homeHidden() {
            return home != NONE && homeRecord != NONE && book.hidden[homeRecord];
        }

        int abroadSince() {
            return abroadRecord == NONE ? NONE : book.day[abroadRecord];
        }

        int askedWard() {
            return askedRecord == NONE ? NONE : book.place[askedRecord] / PLACES_OF_WARD;
        }

        boolean young() {
            return born == NONE || day - born < law.values[Law.AGE];
        }

        boolean away() {
            return abroadRecord != NONE && day - book.day[abroadRecord] > law.values[Law.ABROAD];
        }

        boolean causeHolds() {
            // a stack of bits: ten "(" within one another keep no more than some twenty
            long stack = 0;
            for (int i = 0; i < law.codeSize; i++) {
                int kind = law.code[i] % 16;
                if (kind == Law.NOT) {
                    stack ^= 1;
                } else if (kind == Law.AND) {
                    stack = (stack >>> 1) & (stack | ~1L);
                } else if (kind == Law.OR) {
                    stack = (stack >>> 1) | (stack & 1);
                } else {
                    stack = (stack << 1) | (holds(kind, law.code[i] / 16) ? 1 : 0);
                }
            }
            return (stack & 1) != 0;
        }

        private boolean holds(int kind, int number) {
            switch (kind) {
                case Law.DEAD:
                    return dead;
                case Law.MOVED:
                    return home != NONE && askedRecord != NONE
                            && home / PLACES_OF_WARD != askedWard();
                case Law.NOHOME:
                    return home == NONE;
                case Law.DOUBLE:
                    return doubled;
                case Law.YOUNG:
                    return young();
                case Law.AWAY:
                    return away();
                case Law.SILENT:
                    return heard == NONE || day - heard > number;
                default:
                    return askedWard() == number;
            }
        }
    }

    /** The LINE of the PERSON at which the facts look. */
    private static final class Line {
        static final int OUT = 0;
        static final int IN = 1;
        static final int STRUCK = 2;
        static final int WAITS = 3;
        private static final int NEVER = LAST_DAY + 1;

        private final Book book;
        private final Acts acts;
        private final Facts facts;
        private final Law law;
        int state;
        int sinceDay;
        /** What the STRIKE at which the walk stopped LACKS. */
        int lack;

        Line(Book book, Acts acts, Facts facts, Law law) {
            this.book = book;
            this.acts = acts;
            this.facts = facts;
            this.law = law;
        }

        /** Walks to the end of a DAY, or up to an ACT (NONE: to none), which is then not done. */
        void walk(int day, int stopAct) {
            state = OUT;
            sinceDay = NONE;
            lack = NONE;
            int nextRecord = 0;
            int nextDeed = 0;
            for (int step = 0; step < Book.ROOM + Acts.ROOM; step++) {
                nextRecord = nextAsking(nextRecord);
                nextDeed = nextDoing(nextDeed);
                int recordDay = nextRecord < facts.size ? book.day[facts.records[nextRecord]] : NEVER;
                int deedDay = nextDeed < facts.deedCount ? acts.day[facts.deeds[nextDeed]] : NEVER;
                if (Math.min(recordDay, deedDay) > day) {
                    break;
                }
                ripen(Math.min(recordDay, deedDay));
                if (recordDay <= deedDay) {
                    ask(recordDay);
                    nextRecord++;
                } else if (facts.deeds[nextDeed] == stopAct) {
                    lack = lackOn(deedDay);
                    return;
                } else {
                    meet(acts.sort[facts.deeds[nextDeed]], deedDay);
                    nextDeed++;
                }
            }
            ripen(day);
        }

        private int nextAsking(int from) {
            int at = from;
            while (at < facts.size && book.sort[facts.records[at]] != Book.ASKS) {
                at++;
            }
            return at;
        }

        private int nextDoing(int from) {
            int at = from;
            while (at < facts.deedCount && acts.sort[facts.deeds[at]] != Acts.STRIKE
                    && acts.sort[facts.deeds[at]] != Acts.APPEAL) {
                at++;
            }
            return at;
        }

        private void become(int newState, int day) {
            state = newState;
            sinceDay = day;
        }

        /** One that WAITS is IN once it is of age, if that DAY is not behind the one told. */
        private void ripen(int day) {
            if (state != WAITS || facts.born == NONE) {
                return;
            }
            int ofAge = facts.born + law.values[Law.AGE];
            if (ofAge <= sinceDay || ofAge > day) {
                return;
            }
            facts.lookOn(ofAge);
            if (!facts.dead) {
                become(IN, ofAge);
            }
        }

        private void ask(int day) {
            if (state == IN) {
                return;
            }
            facts.lookOn(day);
            become(facts.young() || facts.dead ? WAITS : IN, day);
        }

        private void meet(int sort, int day) {
            if (sort == Acts.STRIKE) {
                if (lackOn(day) == 0) {
                    become(STRUCK, day);
                }
            } else if (state == STRUCK && day - sinceDay <= law.values[Law.APPEAL]) {
                become(IN, day);
            }
        }

        private int lackOn(int day) {
            if (state != IN) {
                return 1;
            }
            if (acts.hasVoteWithin(day, day + law.values[Law.QUIET])) {
                return 2;
            }
            int wanted = law.values[Law.NOTICE];
            if (wanted > 0) {
                int first = firstNotice(wanted, day);
                if (first == NONE) {
                    return 3;
                }
                if (answered(first, day)) {
                    return 4;
                }
            }
            facts.lookOn(day);
            return facts.causeHolds() ? 0 : 5;
        }

        /** The DAY of the first of the latest so many NOTICES that count for a STRIKE; NONE, if they are fewer. */
        private int firstNotice(int wanted, int strikeDay) {
            int found = 0;
            for (int i = facts.deedCount - 1; i >= 0; i--) {
                int act = facts.deeds[i];
                boolean inTime = acts.day[act] >= sinceDay
                        && strikeDay - acts.day[act] >= law.values[Law.DAYS];
                if (acts.sort[act] == Acts.NOTICE && inTime) {
                    found++;
                    if (found == wanted) {
                        return acts.day[act];
                    }
                }
            }
            return NONE;
        }

        private boolean answered(int first, int last) {
            for (int i = 0; i < facts.deedCount; i++) {
                int act = facts.deeds[i];
                if (acts.sort[act] == Acts.ANSWER && within(acts.day[act], first, last)) {
                    return true;
                }
            }
            return false;
        }
    }

    /** DOORS and HALVES: chances of draws, counted by the ways to draw. */
    private static final class Draws {
        static final int MOST = 60;
        static final int MOST_OF_HALF = 30;
        private static final int TWENTIETH = 20;

        final int[] doors;
        final int[] drawn;
        final int[] lacking;
        private final long[] firstWays;
        private final long[] otherWays;
        long luckUpper;
        long luckLower;

        Draws() {
            doors = new int[WARDS];
            drawn = new int[WARDS];
            lacking = new int[WARDS];
            firstWays = new long[MOST + 1];
            otherWays = new long[MOST + 1];
        }

        int atLeast(int ward) {
            int k = lacking[ward];
            int most = doors[ward] - drawn[ward] + k;
            for (int x = k; x < most; x++) {
                if (isLikely(ward, x, k, drawn[ward])) {
                    return x;
                }
            }
            return most;
        }

        int atMost(int ward) {
            int k = lacking[ward];
            for (int x = doors[ward] - drawn[ward] + k; x > k; x--) {
                if (isLikely(ward, x, 0, k)) {
                    return x;
                }
            }
            return k;
        }

        /** Whether from .. to of the drawn doors miss somebody by a twentieth or more, if x of all do. */
        private boolean isLikely(int ward, int x, int from, int to) {
            long ways = waysOf(x, doors[ward] - x, drawn[ward], from, to);
            fillRow(firstWays, doors[ward]);
            // the most ways are those of 30 of 60, below 2 to the 57th: twenty times these still fit
            return TWENTIETH * ways >= firstWays[drawn[ward]];
        }

        /** In how many ways from .. to of the first fall among all that are drawn of both. */
        private long waysOf(int first, int other, int all, int from, int to) {
            fillRow(firstWays, first);
            fillRow(otherWays, other);
            long ways = 0;
            for (int i = Math.max(from, all - other); i <= Math.min(to, Math.min(first, all)); i++) {
                ways += firstWays[i] * otherWays[all - i];
            }
            return ways;
        }

        private static void fillRow(long[] row, int n) {
            row[0] = 1;
            for (int i = 1; i <= n; i++) {
                row[i] = row[i - 1] * (n - i + 1) / i;
            }
        }

        int guessed(int ward) {
            int m = drawn[ward];
            if (m == 0) {
                return 0;
            }
            return (2 * doors[ward] * lacking[ward] + m) / (2 * m);
        }

        int guessedOfAll() {
            int sum = 0;
            boolean any = false;
            for (int ward = 0; ward < WARDS; ward++) {
                if (doors[ward] > 0) {
                    any = true;
                    sum += guessed(ward);
                }
            }
            return any ? sum : NONE;
        }

        void tryHalf(int n1, int a1, int n2, int a2) {
            int all = a1 + a2;
            long ways = waysOf(n1, n2, all, a1, all);
            fillRow(firstWays, n1 + n2);
            long allWays = firstWays[all];
            long common = Math.max(1, commonDivisor(allWays, ways));
            luckUpper = ways / common;
            luckLower = allWays / common;
        }
    }

    /** WISHES, and what is PLANNED for them by a purse. */
    private static final class Plan {
        static final int ROOM = 16;
        private static final int SIDE = ROOM + 1;
        private static final int ACTIONS = 3;

        final int[] wished;
        final int[] wishCase;
        int size;
        final int[] letterChance;
        final int[] knockChance;
        int letterCost;
        int knockCost;
        final int[] chosen;
        int plannedSize;
        int bestChance;
        int bestCost;
        /** By letters and knocks: the most CHANCES with just so many, and the first row that has them. */
        private final int[] chance;
        private final int[] row;

        Plan() {
            wished = new int[ROOM];
            wishCase = new int[ROOM];
            letterChance = new int[CASES];
            knockChance = new int[CASES];
            letterCost = 1;
            knockCost = 10;
            chosen = new int[ROOM];
            bestCost = NONE;
            chance = new int[SIDE * SIDE];
            row = new int[SIDE * SIDE];
        }

        boolean wishes(int record) {
            for (int i = 0; i < size; i++) {
                if (wished[i] == record) {
                    return true;
                }
            }
            return false;
        }

        /** Plans for the WISHES by their CASES, which have been set. */
        void spend(int most) {
            for (int i = 0; i < chance.length; i++) {
                chance[i] = NONE;
                row[i] = 0;
            }
            chance[0] = 0;
            for (int wish = 0; wish < size; wish++) {
                addWish(wish);
            }
            choose(most);
        }

        /** Cells with fewer letters and knocks are read as they were, so the cells go down. */
        private void addWish(int wish) {
            for (int letters = wish + 1; letters >= 0; letters--) {
                for (int knocks = wish + 1 - letters; knocks >= 0; knocks--) {
                    int cell = letters * SIDE + knocks;
                    row[cell] *= ACTIONS;
                    if (letters > 0) {
                        offer(cell, cell - SIDE, letterChance[wishCase[wish]], 1);
                    }
                    if (knocks > 0) {
                        offer(cell, cell - 1, knockChance[wishCase[wish]], 2);
                    }
                }
            }
        }

        private void offer(int cell, int before, int more, int action) {
            if (chance[before] == NONE) {
                return;
            }
            int newChance = chance[before] + more;
            int newRow = row[before] * ACTIONS + action;
            if (newChance > chance[cell] || newChance == chance[cell] && newRow < row[cell]) {
                chance[cell] = newChance;
                row[cell] = newRow;
            }
        }

        private void choose(int most) {
            int best = 0;
            bestCost = 0;
            for (int letters = 0; letters <= size; letters++) {
                for (int knocks = 0; knocks <= size - letters; knocks++) {
                    int cell = letters * SIDE + knocks;
                    int cost = letters * letterCost + knocks * knockCost;
                    if (cost <= most && isBetter(cell, cost, best)) {
                        best = cell;
                        bestCost = cost;
                    }
                }
            }
            bestChance = chance[best];
            plannedSize = size;
            int rest = row[best];
            for (int wish = size - 1; wish >= 0; wish--) {
                chosen[wish] = rest % ACTIONS;
                rest /= ACTIONS;
            }
        }

        private boolean isBetter(int cell, int cost, int best) {
            if (chance[cell] != chance[best]) {
                return chance[cell] > chance[best];
            }
            if (cost != bestCost) {
                return cost < bestCost;
            }
            return row[cell] < row[best];
        }
    }
}
