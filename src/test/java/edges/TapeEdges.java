/** Terms I and II, promises 2 to 4, 6 to 8: the TAPE, TOKENS, FAULT, FOLDS, names. */
final class TapeEdges {
    private static final int NONE = VoteRoll.NONE;
    private static final int BLANKS = 0x20202020;

    private TapeEdges() {
    }

    static void look() {
        tape();
        tokens();
        fault();
        feed();
        feedBeyond();
        end();
        endBeyond();
        foldsText();
        pair();
        pairs();
        foldedName();
        folds();
        foldsRefused();
        faultOfTheLatest();
        recordText();
        recordRefused();
        folded();
    }

    private static int feedBlanks(VoteRoll roll) {
        return roll.feed(BLANKS, BLANKS, BLANKS, BLANKS, BLANKS);
    }

    private static void tape() {
        Edge.of("TEXTS lie on a TAPE of at most 400 bytes.");
        Desk desk = new Desk();
        Edge.due("a LAW of 400 bytes", desk.law("age 1" + " ".repeat(390) + ";age2"), 2);
        desk.type("age" + " ".repeat(377));
        Edge.due("20 bytes more", feedBlanks(desk.roll), 400);
        Edge.due("20 bytes beyond", feedBlanks(desk.roll), NONE);
        Edge.due("the LAW", desk.roll.law(), -6);
        Edge.due("the end of a TEXT of 400 bytes", desk.roll.fault(), 400);
        Edge.due("a LAW whose last of 400 bytes is wrong", desk.lawFault("age 1" + " ".repeat(394) + "?"), 399);
        Edge.due("a row of 400 letters", desk.foldsFault("a".repeat(400)), 0);
        Edge.due("a row of 400 digits", desk.lawFault("age " + "0".repeat(396)), NONE);
    }

    private static void tokens() {
        Edge.of("TOKENS of a TEXT: longest rows of letters a .. z, of digits, single other bytes, any blanks (32) between.");
        Desk desk = new Desk();
        Edge.due("no blanks at all", desk.law("notice1days2;strike if(dead)and(silent3or ward4)"), 2);
        Edge.due("many blanks, at the beginning and the end too", desk.law("   age   1  ;   proof  2   "), 2);
        Edge.due("a row of letters goes on to its last", desk.lawFault("agea 1"), 0);
        Edge.due("a blank parts a row of letters", desk.lawFault("a ge 1"), 0);
        Edge.due("a row of digits goes on to its last", desk.lawFault("age 400000"), 4);
        Edge.due("a blank parts a row of digits", desk.lawFault("age 40 000"), 7);
        Edge.due("a digit ends a row of letters", desk.lawFault("age1"), NONE);
        Edge.due("a letter ends a row of digits", desk.lawFault("age 1a"), 5);
        Edge.due("others are single", desk.law("strike if ((dead))"), 1);
        Edge.due("an other one ends a row", desk.lawFault("age 1;?"), 6);
        Edge.due("letters a and z, digits 0 and 9", desk.record("az,za", 0, 6, NONE, NONE, NONE, 0, 0)
                + desk.lawFault("age 0;age 9"), -1);
        for (int other : new int[] {0, 9, 10, 13, 31, 33, 127, 128, 160, 255}) {
            Edge.due("byte " + other + " is no blank", desk.lawFault("age 1 " + (char) other + "  "), 6);
        }
        for (int other : new int[] {'a' - 1, 'z' + 1, 'A', 'Z'}) {
            Edge.due("byte " + other + " is no letter", desk.foldsFault("ab" + (char) other + ">a"), 2);
            Edge.due("byte " + other + " begins no row", desk.foldsFault((char) other + ">a"), 0);
        }
        for (int other : new int[] {'0' - 1, '9' + 1}) {
            Edge.due("byte " + other + " is no digit", desk.lawFault("age 1" + (char) other), 5);
            Edge.due("byte " + other + " begins no row", desk.lawFault("age " + (char) other + "1"), 4);
        }
    }

    private static void fault() {
        Edge.of("FAULT: the first TOKEN that can't go on there (the end's: the TEXT's length).");
        Desk desk = new Desk();
        Edge.due("the first TOKEN", desk.lawFault("?"), 0);
        Edge.due("the first TOKEN behind blanks", desk.lawFault("   ?"), 3);
        Edge.due("of two that can't the first", desk.lawFault("age 1 ? ?"), 6);
        Edge.due("where it begins, not where it ends", desk.lawFault("age 1; agent 2"), 7);
        Edge.due("the end", desk.lawFault("age"), 3);
        Edge.due("the end behind blanks", desk.lawFault("age   "), 6);
        Edge.due("the last TOKEN", desk.lawFault("age age"), 4);
        Edge.due("the end of no TEXT", desk.record("", 0, 6, NONE, NONE, NONE, 0, 0) + 10 * desk.roll.fault(), -6);
        Edge.due("a TEXT that can go on to its end", desk.lawFault("age 1"), NONE);
    }

    private static void feed() {
        Edge.of("Twenty bytes come behind the TAPE, four of each number, the highest first: how many it has.");
        Desk desk = new Desk();
        Edge.due("behind an empty TAPE", desk.roll.feed(0x61626364, 0x65666768, 0x696a6b6c, 0x2c6d6e6f, 0x70717273), 20);
        Edge.due("they are read", desk.roll.record(0, 6, NONE, NONE, NONE, 0, 0), 0);
        Edge.due("the first three numbers", desk.folded(0, 0), "abcdefghijkl");
        Edge.due("the last two numbers", desk.folded(0, 1), "mnopqrs");
        desk.type("ab");
        Edge.due("behind two bytes", desk.roll.feed(0x632c6420, BLANKS, BLANKS, BLANKS, BLANKS), 22);
        desk.roll.record(0, 6, NONE, NONE, NONE, 0, 0);
        Edge.due("they come behind these", desk.folded(1, 0) + "," + desk.folded(1, 1), "abc,d");
        desk.roll.feed(0x2c202020, BLANKS, BLANKS, BLANKS, 0x202020ff);
        desk.roll.record(0, 6, NONE, NONE, NONE, 0, 0);
        Edge.due("a byte of 255 is the last", desk.roll.fault(), 19);
        desk.roll.feed(0x2cffffff, -1, -1, -1, -1);
        desk.roll.record(0, 6, NONE, NONE, NONE, 0, 0);
        Edge.due("numbers below 0", desk.roll.fault(), 1);
        desk.roll.feed(Edge.LEAST, 0, 0, 0, 0);
        desk.roll.folds();
        Edge.due("the least number", desk.roll.fault(), 0);
    }

    private static void feedBeyond() {
        Edge.of("NONE, if there would be more than 400.");
        VoteRoll roll = new VoteRoll();
        for (int i = 1; i < 20; i++) {
            feedBlanks(roll);
        }
        Edge.due("from 380 on", feedBlanks(roll), 400);
        Edge.due("from 400 on", feedBlanks(roll), NONE);
        Edge.due("nothing came", roll.count(7), 400);
        roll.end(381);
        Edge.due("from 381 on", feedBlanks(roll), NONE);
        Edge.due("nothing came", roll.count(7), 381);
        roll.end(380);
        Edge.due("from 380 on again", feedBlanks(roll), 400);
    }

    private static void end() {
        Edge.of("The TAPE has its first n bytes alone: n.");
        Desk desk = new Desk();
        desk.type("abc,def");
        Edge.due("all of them", desk.roll.end(7), 7);
        Edge.due("one less", desk.roll.end(6), 6);
        desk.roll.record(0, 6, NONE, NONE, NONE, 0, 0);
        Edge.due("what is cut is gone", desk.folded(0, 1), "de");
        desk.type("abc,def");
        Edge.due("none", desk.roll.end(0), 0);
        Edge.due("bytes then", desk.roll.count(7), 0);
        desk.type("x,");
        Edge.due("what comes lies where it was cut", desk.roll.record(0, 6, NONE, NONE, NONE, 0, 0), 1);
        Edge.due("what comes is alone", desk.folded(1, 0) + "," + desk.folded(1, 1), "x,");
    }

    private static void endBeyond() {
        Edge.of("NONE, if it has not so many, or n is below 0.");
        Desk desk = new Desk();
        Edge.due("one of none", desk.roll.end(1), NONE);
        Edge.due("none of none", desk.roll.end(0), 0);
        desk.type("abc,def");
        Edge.due("one too many", desk.roll.end(8), NONE);
        Edge.due("the greatest number", desk.roll.end(Edge.GREATEST), NONE);
        Edge.due("below 0", desk.roll.end(-1), NONE);
        Edge.due("the least number", desk.roll.end(Edge.LEAST), NONE);
        Edge.due("they are all there still", desk.roll.count(7), 7);
        Edge.due("just so many", desk.roll.end(7), 7);
        desk.roll.end(3);
        Edge.due("what was cut does not come again", desk.roll.end(4), NONE);
    }

    private static void foldsText() {
        Edge.of("FOLDS are a TEXT: PAIR {\",\" PAIR}.");
        Desk desk = new Desk();
        Edge.due("one", desk.folds("a>b"), 1);
        Edge.due("two", desk.folds("a>b,c>d"), 2);
        Edge.due("a sign ahead of the first", desk.foldsFault(",a>b"), 0);
        Edge.due("a sign behind the last", desk.foldsFault("a>b,"), 4);
        Edge.due("two signs", desk.foldsFault("a>b,,c>d"), 4);
        Edge.due("no sign", desk.foldsFault("a>b c>d"), 4);
        Edge.due("another sign", desk.foldsFault("a>b;c>d"), 3);
        Edge.due("a sign alone", desk.foldsFault(","), 0);
    }

    private static void pair() {
        Edge.of("PAIR: LETTERS \">\" [LETTERS] (1 .. 3 letters each; a longer row is the FAULT).");
        Desk desk = new Desk();
        Edge.due("one letter each", desk.folds("a>b"), 1);
        Edge.due("three letters each", desk.folds("abc>def"), 1);
        Edge.due("four on the left", desk.foldsFault("abcd>e"), 0);
        Edge.due("four on the right", desk.foldsFault("a>bcde"), 2);
        Edge.due("four on the left of the second", desk.foldsFault("a>b,abcd>e"), 4);
        Edge.due("none on the left", desk.foldsFault(">b"), 0);
        Edge.due("none on the right", desk.folds("a>"), 1);
        Edge.due("none on the right of the first", desk.folds("a>,b>c"), 2);
        Edge.due("no sign", desk.foldsFault("a,b>c"), 1);
        Edge.due("no sign and the end", desk.foldsFault("a"), 1);
        Edge.due("two signs", desk.foldsFault("a>>b"), 2);
        Edge.due("two rows on the left", desk.foldsFault("a b>c"), 2);
        Edge.due("two rows on the right", desk.foldsFault("a>b c"), 4);
        Edge.due("digits on the left", desk.foldsFault("1>a"), 0);
        Edge.due("digits on the right", desk.foldsFault("a>1"), 2);
        desk.folds("abc>def");
        desk.tell("abcab,ab", 6, NONE, NONE, 0);
        Edge.due("three letters come for three", desk.folded(0, 0), "defab");
        Edge.due("two are not three", desk.folded(0, 1), "ab");
    }

    private static void pairs() {
        Edge.of("16 PAIRS at most (FAULT at the 17th's first TOKEN).");
        Desk desk = new Desk();
        String fifteen = "a>b,".repeat(15);
        Edge.due("16", desk.folds(fifteen + "c>d"), 16);
        Edge.due("their number", desk.roll.count(1), 16);
        desk.tell("ac,", 6, NONE, NONE, 0);
        Edge.due("the 16th is used", desk.folded(0, 0), "bd");
        Edge.due("17", desk.foldsFault(fifteen + "c>d,e>f"), 64);
        Edge.due("17 behind blanks", desk.foldsFault(fifteen + "c>d,   e>f"), 67);
        Edge.due("a 17th that is none", desk.foldsFault(fifteen + "c>d,?"), 64);
        Edge.due("a sign behind the 16th", desk.foldsFault(fifteen + "c>d, "), 65);
        Edge.due("no sign behind the 16th", desk.foldsFault(fifteen + "c>d e>f"), 64);
        Edge.due("a FAULT in the 16th", desk.foldsFault(fifteen + "c,"), 61);
        String longest = "xyz>uvw,".repeat(15) + "abc>def";
        Edge.due("the FOLDS are those of ahead", desk.roll.count(1), 16);
        Edge.due("16 of three letters each", desk.folds(longest), 16);
        desk.tell("abcxyz,", 6, NONE, NONE, 0);
        Edge.due("the first and the last of these", desk.folded(1, 0), "defuvw");
    }

    private static String fold(String folds, String name) {
        Desk desk = new Desk();
        desk.folds(folds);
        desk.tell(name + ",", 6, NONE, NONE, 0);
        return desk.folded(0, 0);
    }

    private static void foldedName() {
        Edge.of("A name is FOLDED from left to right: where the left LETTERS of a PAIR stand, its right ones come instead"
                + " (the first PAIR of those that fit), and it goes on behind them; else the letter stays.");
        Edge.due("from left to right", fold("aa>b", "aaa"), "ba");
        Edge.due("the first PAIR of those that fit", fold("a>x,ab>y", "ab"), "xb");
        Edge.due("the first PAIR of those that fit", fold("ab>y,a>x", "ab"), "y");
        Edge.due("the first one that does not fit is passed by", fold("ac>y,a>x", "ab"), "xb");
        Edge.due("two PAIRS alike: the first", fold("a>x,a>y", "aa"), "xx");
        Edge.due("it goes on behind them: what came is not folded", fold("a>b,b>c", "ab"), "bc");
        Edge.due("nor what came with what follows", fold("a>b,bc>x", "ac"), "bc");
        Edge.due("nor what stood there with what follows", fold("ab>x,bc>y", "abc"), "xc");
        Edge.due("else the letter stays", fold("a>b", "xyz"), "xyz");
        Edge.due("LETTERS at the very end", fold("bc>x", "abc"), "ax");
        Edge.due("LETTERS that the end cuts off", fold("bcd>x", "abc"), "abc");
        Edge.due("LETTERS longer than the name", fold("abc>x", "ab"), "ab");
        Desk beside = new Desk();
        beside.folds("ph>f");
        beside.tell("aaaaaaaaaaap,hp", 6, NONE, NONE, 0);
        beside.tell("h,h", 6, NONE, NONE, 0);
        Edge.due("LETTERS do not go on from one name to the other", beside.folded(0, 0) + "," + beside.folded(0, 1),
                "aaaaaaaaaaap,hp");
        beside.record("ph,phx?", 0, 6, NONE, NONE, NONE, 0, 0);
        beside.tell("p,p", 6, NONE, NONE, 0);
        Edge.due("nor into what was refused", beside.folded(2, 0) + "," + beside.folded(2, 1), "p,p");
        Edge.due("no right ones", fold("a>", "banana"), "bnn");
        Edge.due("nothing is left", fold("a>", "aaa"), "");
        Edge.due("no name", fold("a>b", ""), "");
        Edge.due("no FOLDS", fold("", "abc"), "abc");
        Edge.due("the longest that can come", fold("a>xyz", "a".repeat(12)), "xyz".repeat(12));
        Edge.due("the shortest of 12", fold("aaa>", "a".repeat(12)), "");
    }

    private static void folds() {
        Edge.of("The TAPE, which is empty then, becomes the FOLDS: how many (blanks alone: none).");
        Desk desk = new Desk();
        Edge.due("two", desk.folds("a>b,c>d"), 2);
        Edge.due("the TAPE is empty then", desk.roll.count(7), 0);
        Edge.due("count(1)", desk.roll.count(1), 2);
        Edge.due("one instead", desk.folds("e>f"), 1);
        desk.tell("ae,", 6, NONE, NONE, 0);
        Edge.due("the others are gone", desk.folded(0, 0), "af");
        desk.folds("e>");
        Edge.due("one that had right LETTERS has none", desk.folded(0, 0), "a");
        desk.tell("af,", 6, NONE, NONE, 0);
        Edge.due("FOLDED apart", desk.roll.odds(0, 1, 4), 0);
        desk.folds("e>f");
        Edge.due("FOLDED to the same", desk.roll.odds(0, 1, 4), 1);
        desk.roll.terms(0, 1, 1, 1, 1, 0);
        Edge.due("one PERSON by these FOLDS", desk.roll.joined(0, 0), 1);
        desk.folds("e>");
        Edge.due("two PERSONS by others", desk.roll.joined(0, 0), 2);
        Edge.due("blanks alone", desk.folds("   "), 0);
        Edge.due("count(1) then", desk.roll.count(1), 0);
        Edge.due("the name then", desk.folded(0, 0), "ae");
        Edge.due("fault() then", desk.roll.fault(), NONE);
        desk.folds("e>f");
        Edge.due("an empty TAPE", desk.roll.folds(), 0);
        Edge.due("count(1) then", desk.roll.count(1), 0);
        Edge.due("400 blanks", desk.folds(" ".repeat(400)), 0);
    }

    private static void foldsRefused() {
        Edge.of("-6: they stay, FAULT is told.");
        Desk desk = new Desk();
        desk.folds("a>b,c>d");
        desk.tell("ace,", 6, NONE, NONE, 0);
        Edge.due("a FAULT in the third", desk.folds("a>x,e>f,g"), -6);
        Edge.due("FAULT", desk.roll.fault(), 9);
        Edge.due("status()", desk.roll.status(), -6);
        Edge.due("they stay", desk.roll.count(1), 2);
        Edge.due("they stay for names", desk.folded(0, 0), "bde");
        Edge.due("the TAPE is empty then", desk.roll.count(7), 0);
        Edge.due("what goes well", desk.folds("a>x"), 1);
        Edge.due("its FAULT", desk.roll.fault(), NONE);
    }

    private static void faultOfTheLatest() {
        Edge.of("FAULT of the latest folds(), law(), record() that read a TEXT: its place; NONE without.");
        Desk desk = new Desk();
        Edge.due("none has read yet", desk.roll.fault(), NONE);
        desk.folds("?");
        Edge.due("folds()", desk.roll.fault(), 0);
        desk.law("age ?");
        Edge.due("law()", desk.roll.fault(), 4);
        desk.record("a,?", 0, 6, NONE, NONE, NONE, 0, 0);
        Edge.due("record()", desk.roll.fault(), 2);
        desk.record("?", 8, 6, NONE, NONE, NONE, 0, 0);
        Edge.due("a record() that read none, by -1", desk.roll.fault(), 2);
        desk.roll.end(0);
        desk.roll.feed(-1, -1, -1, -1, -1);
        desk.roll.end(99);
        Edge.due("feed() and end() read none", desk.roll.fault(), 2);
        desk.roll.end(0);
        desk.fill(120);
        Edge.due("NONE without", desk.roll.fault(), NONE);
        desk.law("age ?");
        desk.record("?", 0, 6, NONE, NONE, NONE, 0, 0);
        Edge.due("a record() that read none, by -5", desk.roll.fault(), 4);
        desk.roll.end(0);
        desk.roll.law();
        Edge.due("an empty TEXT has none", desk.roll.fault(), NONE);
    }

    private static int recordFault(String names) {
        Desk desk = new Desk();
        desk.record(names, 0, 6, NONE, NONE, NONE, 0, 0);
        return desk.roll.fault();
    }

    private static void recordText() {
        Edge.of("The TAPE, which is empty then, is [FAMILY] \",\" [GIVEN] (each one row of letters, 12 at most;"
                + " a longer one is the FAULT), and a RECORD comes: its number.");
        Desk desk = new Desk();
        Edge.due("the first", desk.record("abc,de", 0, 6, NONE, NONE, NONE, 0, 0), 0);
        Edge.due("the TAPE is empty then", desk.roll.count(7), 0);
        Edge.due("no FAMILY", desk.record(" ,de", 0, 6, NONE, NONE, NONE, 0, 0), 1);
        Edge.due("no GIVEN", desk.record("abc, ", 0, 6, NONE, NONE, NONE, 0, 0), 2);
        Edge.due("neither", desk.record(",", 0, 6, NONE, NONE, NONE, 0, 0), 3);
        Edge.due("they are as told", desk.folded(1, 0) + "," + desk.folded(1, 1) + ";" + desk.folded(2, 0) + ","
                + desk.folded(2, 1) + ";" + desk.folded(3, 0) + "," + desk.folded(3, 1), ",de;abc,;,");
        Edge.due("how many", desk.roll.count(0), 4);
        String twelve = "a".repeat(12);
        Edge.due("12 letters each", recordFault(twelve + "," + twelve), NONE);
        Edge.due("13 letters of FAMILY", recordFault(" " + twelve + "a," + twelve), 1);
        Edge.due("13 letters of GIVEN", recordFault(twelve + ", " + twelve + "a"), 14);
        Edge.due("two rows of FAMILY", recordFault("a b,c"), 2);
        Edge.due("two rows of GIVEN", recordFault("a,b c"), 4);
        Edge.due("no sign", recordFault("a"), 1);
        Edge.due("two signs", recordFault("a,b,"), 3);
        Edge.due("another sign", recordFault("a;b"), 1);
        Edge.due("nothing", recordFault(""), 0);
        Edge.due("blanks alone", recordFault("  "), 2);
        Edge.due("digits", recordFault("a1,b"), 1);
    }

    private static void recordRefused() {
        Edge.of("-1; -5 (both ahead of reading it); -6.");
        Desk desk = new Desk();
        desk.type("?");
        Edge.due("-1", desk.roll.record(0, 7, NONE, NONE, NONE, 0, 0), -1);
        Edge.due("ahead of reading it: the TAPE stays", desk.roll.count(7), 1);
        Edge.due("no FAULT is told", desk.roll.fault(), NONE);
        Edge.due("-6", desk.roll.record(0, 6, NONE, NONE, NONE, 0, 0), -6);
        Edge.due("it was read: the TAPE is empty", desk.roll.count(7), 0);
        Edge.due("the FAULT is told", desk.roll.fault(), 0);
        Edge.due("no RECORD came", desk.roll.count(0), 0);
        desk.record("abc,def?", 0, 6, NONE, NONE, NONE, 0, 0);
        desk.fill(1);
        Edge.due("nothing of it comes with the next", desk.folded(0, 0) + "," + desk.folded(0, 1), ",");
        desk.fill(118);
        desk.tell("a,", 6, NONE, NONE, 0);
        desk.type("b,");
        Edge.due("-5", desk.roll.record(0, 6, NONE, NONE, NONE, 0, 0), -5);
        Edge.due("ahead of reading it: the TAPE stays", desk.roll.count(7), 2);
        Edge.due("no RECORD came", desk.roll.count(0), 120);
        Edge.due("the last one is as it was", desk.folded(119, 0), "a");
    }

    private static void folded() {
        Edge.of("Byte i of a name of a RECORD (0 family's, 1 given) FOLDED; how many (i -1). NONE.");
        Desk desk = new Desk();
        Edge.due("no RECORD at all", desk.roll.folded(0, 0, -1), NONE);
        desk.folds("b>xyz");
        desk.tell("ab,c", 6, NONE, NONE, 0);
        VoteRoll roll = desk.roll;
        Edge.due("how many of the family's", roll.folded(0, 0, -1), 4);
        Edge.due("how many of the given one", roll.folded(0, 1, -1), 1);
        Edge.due("byte 0", roll.folded(0, 0, 0), 'a');
        Edge.due("the last byte", roll.folded(0, 0, 3), 'z');
        Edge.due("behind the last byte", roll.folded(0, 0, 4), NONE);
        Edge.due("behind the only byte", roll.folded(0, 1, 1), NONE);
        Edge.due("i -2", roll.folded(0, 0, -2), NONE);
        Edge.due("i least", roll.folded(0, 0, Edge.LEAST), NONE);
        Edge.due("i greatest", roll.folded(0, 0, Edge.GREATEST), NONE);
        Edge.due("name 2", roll.folded(0, 2, -1), NONE);
        Edge.due("name -1", roll.folded(0, -1, -1), NONE);
        Edge.due("name greatest", roll.folded(0, Edge.GREATEST, 0), NONE);
        Edge.due("behind the last RECORD", roll.folded(1, 0, -1), NONE);
        Edge.due("RECORD -1", roll.folded(-1, 0, -1), NONE);
        Edge.due("RECORD greatest", roll.folded(Edge.GREATEST, 0, -1), NONE);
        Edge.due("RECORD least", roll.folded(Edge.LEAST, 0, -1), NONE);
        desk.tell(",", 6, NONE, NONE, 0);
        Edge.due("how many of no name", roll.folded(1, 0, -1), 0);
        Edge.due("byte 0 of no name", roll.folded(1, 0, 0), NONE);
    }
}
