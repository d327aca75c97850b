/** Term IV, promise 5: the LAW's CLAUSES and FACTS, their limits, what holds without them. */
final class LawEdges {
    private static final int NONE = VoteRoll.NONE;

    private LawEdges() {
    }

    static void look() {
        lawText();
        clause();
        cause();
        both();
        fact();
        numbers();
        clauses();
        facts();
        brackets();
        lastOfEachKind();
        without();
        law();
        lawRefused();
    }

    private static int fault(String text) {
        return new Desk().lawFault(text);
    }

    private static int causeFault(String cause) {
        int fault = fault("strike if " + cause);
        return fault == NONE ? NONE : fault - 10;
    }

    private static void lawText() {
        Edge.of("The LAW is a TEXT: CLAUSE {\";\" CLAUSE}.");
        Desk desk = new Desk();
        Edge.due("one", desk.law("age 1"), 1);
        Edge.due("two", desk.law("age 1;proof 2"), 2);
        Edge.due("a sign ahead of the first", fault(";age 1"), 0);
        Edge.due("a sign behind the last", fault("age 1;"), 6);
        Edge.due("two signs", fault("age 1;;age 2"), 6);
        Edge.due("no sign", fault("age 1 age 2"), 6);
        Edge.due("another sign", fault("age 1,age 2"), 5);
        Edge.due("a sign alone", fault(";"), 0);
    }

    private static void clause() {
        Edge.of("CLAUSE: \"age\" NUMBER | \"proof\" NUMBER | \"notice\" NUMBER \"days\" NUMBER | \"quiet\" NUMBER"
                + " | \"appeal\" NUMBER | \"nodoor\" PLACE | \"abroad\" NUMBER | \"strike\" \"if\" CAUSE.");
        for (String word : new String[] {"age", "proof", "quiet", "appeal", "nodoor", "abroad"}) {
            Edge.due(word + " with a number", fault(word + " 1"), NONE);
            Edge.due(word + " and the end", fault(word), word.length());
            Edge.due(word + " with a word", fault(word + " dead"), word.length() + 1);
            Edge.due(word + " with two numbers", fault(word + " 1 1"), word.length() + 3);
            Edge.due(word + " less its last letter", fault(word.substring(0, word.length() - 1) + " 1"), 0);
            Edge.due(word + " with a letter more", fault(word + "s 1"), 0);
            Edge.due(word + " with another first letter", fault("x" + word.substring(1) + " 1"), 0);
        }
        Edge.due("notice with days", fault("notice 1 days 1"), NONE);
        Edge.due("notice and the end", fault("notice"), 6);
        Edge.due("notice without a number", fault("notice days 1"), 7);
        Edge.due("notice without days", fault("notice 1"), 8);
        Edge.due("notice with another word", fault("notice 1 day 1"), 9);
        Edge.due("days without a number", fault("notice 1 days"), 13);
        Edge.due("days with two numbers", fault("notice 1 days 1 1"), 16);
        Edge.due("days alone", fault("days 1"), 0);
        Edge.due("strike with if", fault("strike if dead"), NONE);
        Edge.due("strike and the end", fault("strike"), 6);
        Edge.due("strike without if", fault("strike dead"), 7);
        Edge.due("strike if and the end", fault("strike if"), 9);
        Edge.due("if alone", fault("if dead"), 0);
        Edge.due("a FACT alone", fault("dead"), 0);
        Edge.due("a number alone", fault("1"), 0);
    }

    private static void cause() {
        Edge.of("CAUSE: BOTH {\"or\" BOTH}.");
        Edge.due("one", causeFault("dead"), NONE);
        Edge.due("two", causeFault("dead or dead"), NONE);
        Edge.due("or and the end", causeFault("dead or"), 7);
        Edge.due("or ahead of the first", causeFault("or dead"), 0);
        Edge.due("two of them", causeFault("dead or or dead"), 8);
        Edge.due("none of them", causeFault("dead dead"), 5);
        Edge.due("or and and", causeFault("dead or and dead"), 8);
        Edge.due("or and the next CLAUSE", causeFault("dead or; age 1"), 7);
    }

    private static void both() {
        Edge.of("BOTH: FACT {\"and\" FACT}.");
        Edge.due("two", causeFault("dead and dead"), NONE);
        Edge.due("and, and the end", causeFault("dead and"), 8);
        Edge.due("and ahead of the first", causeFault("and dead"), 0);
        Edge.due("two of them", causeFault("dead and and dead"), 9);
        Edge.due("and, and or", causeFault("dead and or dead"), 9);
        // "and" binds closer than "or": nohome holds of one that is born, dead does not
        Desk desk = new Desk();
        desk.tell("a,", 6, NONE, NONE, 0);
        String[][] cases = {{"nohome or dead and dead", "1"}, {"dead and dead or nohome", "1"},
            {"nohome and dead or dead", "0"}, {"dead or dead and nohome", "0"}, {"dead or nohome and nohome", "1"}};
        for (String[] c : cases) {
            desk.law("strike if " + c[0]);
            Edge.due(c[0], desk.roll.cause(0, 0, 0), Integer.parseInt(c[1]));
        }
    }

    private static void fact() {
        Edge.of("FACT: \"not\" FACT | \"(\" CAUSE \")\" | \"dead\" | \"moved\" | \"nohome\" | \"double\" | \"young\" | \"away\""
                + " | \"silent\" NUMBER | \"ward\" NUMBER.");
        for (String word : new String[] {"dead", "moved", "nohome", "double", "young", "away"}) {
            Edge.due(word, causeFault(word), NONE);
            Edge.due(word + " with a number", causeFault(word + " 1"), word.length() + 1);
            Edge.due(word + " less its last letter", causeFault(word.substring(0, word.length() - 1)), 0);
            Edge.due(word + " with a letter more", causeFault(word + "s"), 0);
            Edge.due(word + " with another first letter", causeFault("x" + word.substring(1)), 0);
        }
        for (String word : new String[] {"silent", "ward"}) {
            Edge.due(word + " with a number", causeFault(word + " 1"), NONE);
            Edge.due(word + " and the end", causeFault(word), word.length());
            Edge.due(word + " with a word", causeFault(word + " dead"), word.length() + 1);
            Edge.due(word + " with two numbers", causeFault(word + " 1 1"), word.length() + 3);
        }
        Edge.due("not", causeFault("not dead"), NONE);
        Edge.due("not not", causeFault("not not dead"), NONE);
        Edge.due("not, 96 times", causeFault("not ".repeat(96) + "dead"), NONE);
        Edge.due("not and the end", causeFault("not"), 3);
        Edge.due("not and or", causeFault("not or dead"), 4);
        Edge.due("brackets", causeFault("(dead or dead)"), NONE);
        Edge.due("empty brackets", causeFault("()"), 1);
        Edge.due("a bracket left open", causeFault("(dead"), 5);
        Edge.due("a bracket too many", causeFault("(dead))"), 6);
        Edge.due("a closing bracket alone", causeFault(")"), 0);
        Edge.due("a CLAUSE in brackets", causeFault("(age 1)"), 1);
        Edge.due("a CLAUSE behind an open bracket", causeFault("(dead; age 1)"), 5);
    }

    private static void numbers() {
        Edge.of("NUMBERS to 40,000, \"proof\" 1 .. 8, PLACES to 999, WARDS to 19.");
        String[] ahead = {"age ", "quiet ", "appeal ", "abroad ", "notice 1 days ", "strike if silent "};
        for (String words : ahead) {
            Edge.due(words + "0", fault(words + "0"), NONE);
            Edge.due(words + "40000", fault(words + "40000"), NONE);
            Edge.due(words + "40001", fault(words + "40001"), words.length());
            Edge.due(words + "-1", fault(words + "-1"), words.length());
        }
        Edge.due("notice 0", fault("notice 0 days 1"), NONE);
        Edge.due("notice 40000", fault("notice 40000 days 1"), NONE);
        Edge.due("notice 40001", fault("notice 40001 days 1"), 7);
        Edge.due("proof 0", fault("proof 0"), 6);
        Edge.due("proof 1", fault("proof 1"), NONE);
        Edge.due("proof 8", fault("proof 8"), NONE);
        Edge.due("proof 9", fault("proof 9"), 6);
        Edge.due("nodoor 0", fault("nodoor 0"), NONE);
        Edge.due("nodoor 999", fault("nodoor 999"), NONE);
        Edge.due("nodoor 1000", fault("nodoor 1000"), 7);
        Edge.due("ward 0", causeFault("ward 0"), NONE);
        Edge.due("ward 19", causeFault("ward 19"), NONE);
        Edge.due("ward 20", causeFault("ward 20"), 5);
        // numbers that would wrap around to small ones in an int or a long
        for (String huge : new String[] {"4294967297", "18446744073709551617", "2147483648", "9".repeat(390)}) {
            Edge.due("age " + huge, fault("age " + huge), 4);
            Edge.due("proof " + huge, fault("proof " + huge), 6);
        }
        Edge.due("zeros ahead of the greatest", fault("age " + "0".repeat(391) + "40000"), NONE);
        Edge.due("zeros ahead of one too many", fault("age " + "0".repeat(391) + "40001"), 4);
    }

    private static void clauses() {
        Edge.of("20 CLAUSES (FAULT at the 21st's first TOKEN),");
        Desk desk = new Desk();
        String nineteen = "age 1;".repeat(19);
        Edge.due("20", desk.law(nineteen + "age 2"), 20);
        Edge.due("count(2)", desk.roll.count(2), 20);
        Edge.due("21", desk.lawFault(nineteen + "age 2;age 3"), 120);
        Edge.due("21 behind blanks", desk.lawFault(nineteen + "age 2;  age 3"), 122);
        Edge.due("a 21st that is none", desk.lawFault(nineteen + "age 2;?"), 120);
        Edge.due("a sign behind the 20th", desk.lawFault(nineteen + "age 2; "), 121);
        Edge.due("a FAULT in the 20th", desk.lawFault(nineteen + "age;age"), 117);
        Edge.due("the LAW is that of ahead", desk.roll.count(2), 20);
    }

    private static void facts() {
        Edge.of("40 FACTS (FAULT at the 41st's first TOKEN),");
        Desk desk = new Desk();
        String forty = "dead or ".repeat(39) + "away";
        Edge.due("40", desk.law("strike if " + forty), 1);
        Edge.due("count(3)", desk.roll.count(3), 40);
        int fault = 10 + forty.length() + 4;
        Edge.due("41", desk.lawFault("strike if " + forty + " or dead"), fault);
        Edge.due("41, the last with a number", desk.lawFault("strike if " + forty + " or silent 5"), fault);
        Edge.due("41, the last with none that it needs", desk.lawFault("strike if " + forty + " or silent"), fault);
        Edge.due("41 behind a bracket", desk.lawFault("strike if " + forty + " or (dead)"), fault + 1);
        Edge.due("the LAW is that of ahead", desk.roll.count(3), 40);
        String turned = "not dead or ".repeat(20) + "(away)" + " or (away)".repeat(9);
        Edge.due("not and brackets are none of their own", desk.law("strike if " + turned), 1);
        Edge.due("count(3) of these", desk.roll.count(3), 30);
        Edge.due("40 of two CAUSES", desk.law("strike if dead;strike if dead" + " or dead".repeat(38)), 2);
        Edge.due("41 of two CAUSES", desk.lawFault("strike if dead;strike if dead" + " or dead".repeat(39)),
                25 + 39 * 8);
    }

    private static void brackets() {
        Edge.of("10 \"(\" within one another (FAULT at the 11th) at most.");
        Edge.due("10", causeFault("(".repeat(10) + "dead" + ")".repeat(10)), NONE);
        Edge.due("11", causeFault("(".repeat(11) + "dead" + ")".repeat(11)), 10);
        Edge.due("11 with blanks", causeFault("( ".repeat(11) + "dead" + ")".repeat(11)), 20);
        Edge.due("10 behind not", causeFault("not (".repeat(10) + "dead" + ")".repeat(10)), NONE);
        Edge.due("11 behind not", causeFault("not (".repeat(11) + "dead" + ")".repeat(11)), 54);
        Edge.due("20, no more than 10 within one another",
                causeFault("(".repeat(10) + "dead" + ")".repeat(10) + " or " + "(".repeat(10) + "dead" + ")".repeat(10)), NONE);
        Edge.due("a 10th opened anew", causeFault("(".repeat(9) + "(dead) or (dead)" + ")".repeat(9)), NONE);
        Edge.due("an 11th behind one closed", causeFault("(".repeat(10) + "dead or (dead)" + ")".repeat(10)), 18);
        Edge.due("11 left open", causeFault("(".repeat(11)), 10);
        Edge.due("10 left open", causeFault("(".repeat(10)), 10);
        Edge.due("10 in a second CAUSE", fault("strike if (dead);strike if " + "(".repeat(10) + "dead" + ")".repeat(10)), NONE);
    }

    /** What a LAW makes of one PERSON whose every number matters: told by rows of answers. */
    private static String effects(String law) {
        Desk desk = new Desk();
        desk.roll.terms(0, 1000, 1, 1, 1, 0);
        desk.law(law);
        desk.record("a,", 0, 6, 0, NONE, NONE, 0, 0);
        desk.record("a,", 1, 2, NONE, NONE, NONE, 30000, 0);
        desk.record("a,", 2, 2, NONE, NONE, NONE, 30001, 0);
        desk.record("a,", 0, 4, NONE, NONE, NONE, 1, 0);
        desk.record("a,", 0, 5, NONE, 60, NONE, 2, 0);
        desk.record("a,", 0, 4, NONE, NONE, NONE, 20000, 0);
        VoteRoll roll = desk.roll;
        StringBuilder text = new StringBuilder();
        text.append("age ").append(roll.since(0, 29999, 0));
        text.append(" proof ").append(roll.of(0, 30000, 0, 3)).append(roll.of(0, 30001, 0, 3));
        text.append(" nodoor ").append(roll.of(0, 1, 0, 1));
        text.append(" cause ").append(roll.cause(0, 20000, 0));
        return text.toString();
    }

    private static void lastOfEachKind() {
        Edge.of("Of each kind the last counts;");
        Edge.due("one of each", effects("age 5;proof 2;nodoor 7;strike if nohome"), "age 5 proof 01 nodoor 7 cause 0");
        Edge.due("two of each", effects("age 9;proof 1;nodoor 8;strike if not dead;age 5;proof 2;nodoor 7;strike if nohome"),
                "age 5 proof 01 nodoor 7 cause 0");
        Edge.due("the other way round", effects("age 5;proof 2;nodoor 7;strike if nohome;age 9;proof 1;nodoor 8;"
                + "strike if not dead"), "age 9 proof 11 nodoor 8 cause 1");
        Desk desk = new Desk();
        desk.law("strike if dead or dead;strike if dead");
        Edge.due("FACTS of the last CAUSE", desk.roll.count(3), 1);
        Edge.due("CLAUSES are all counted", desk.roll.count(2), 2);
        Edge.due("notice: the last", LineEdges.lackOfNotice("notice 2 days 9;notice 1 days 5", 5), 0);
        Edge.due("notice: the last, one DAY less", LineEdges.lackOfNotice("notice 0 days 0;notice 1 days 5", 4), 3);
        Edge.due("quiet: the last", LineEdges.lackOfVote("quiet 9;quiet 5", 6), 0);
        Edge.due("quiet: the last", LineEdges.lackOfVote("quiet 3;quiet 5", 5), 2);
        Edge.due("appeal: the last", LineEdges.lineAppealed("appeal 9;appeal 5", 6), 2);
        Edge.due("appeal: the last", LineEdges.lineAppealed("appeal 3;appeal 5", 5), 1);
        Edge.due("abroad: the last", FactEdges.away("abroad 9;abroad 5", 6), 1);
        Edge.due("abroad: the last", FactEdges.away("abroad 3;abroad 5", 5), 0);
    }

    private static void without() {
        Edge.of("without: age 6570, proof 1, notice 1 days 30, quiet 90, appeal 60, no PLACE, abroad 5000,"
                + " struck for no CAUSE at all.");
        for (String law : new String[] {"", "   "}) {
            Edge.due("a LAW of no CLAUSES", effects(law), "age 6570 proof 11 nodoor -1 cause 0");
        }
        Edge.due("a LAW of other CLAUSES", effects("appeal 1;quiet 1;abroad 1;notice 3 days 3"),
                "age 6570 proof 11 nodoor -1 cause 0");
        Edge.due("one NOTICE 30 DAYS ahead", LineEdges.lackOfNotice("", 30), 0);
        Edge.due("one NOTICE 29 DAYS ahead", LineEdges.lackOfNotice("", 29), 3);
        Edge.due("a VOTE 90 DAYS behind", LineEdges.lackOfVote("", 90), 2);
        Edge.due("a VOTE 91 DAYS behind", LineEdges.lackOfVote("", 91), 0);
        Edge.due("an APPEAL 60 DAYS behind", LineEdges.lineAppealed("", 60), 1);
        Edge.due("an APPEAL 61 DAYS behind", LineEdges.lineAppealed("", 61), 2);
        Edge.due("ABROAD 5000 DAYS", FactEdges.away("", 5000), 0);
        Edge.due("ABROAD 5001 DAYS", FactEdges.away("", 5001), 1);
        Desk desk = new Desk();
        desk.tell("a,", 5, 0, 60, 7000);
        Edge.due("no LAW at all: the CAUSE", desk.roll.cause(0, 7000, 7000), 0);
        Edge.due("no LAW at all: the LINE", desk.roll.line(0, 7000, 7000), 1);
        desk.law("age 40000;strike if young");
        Edge.due("by a LAW", desk.roll.cause(0, 7000, 7000), 1);
        desk.law("proof 1");
        Edge.due("a LAW of ahead does not count: the CAUSE", desk.roll.cause(0, 7000, 7000), 0);
        Edge.due("a LAW of ahead does not count: the LINE", desk.roll.line(0, 7000, 7000), 1);
    }

    private static void law() {
        Edge.of("The TAPE, which is empty then, becomes the LAW: how many CLAUSES (blanks alone: none).");
        Desk desk = new Desk();
        Edge.due("two", desk.law("age 1;strike if dead"), 2);
        Edge.due("the TAPE is empty then", desk.roll.count(7), 0);
        Edge.due("count(2)", desk.roll.count(2), 2);
        Edge.due("count(3)", desk.roll.count(3), 1);
        Edge.due("blanks alone", desk.law("  "), 0);
        Edge.due("count(2) then", desk.roll.count(2), 0);
        Edge.due("count(3) then", desk.roll.count(3), 0);
        Edge.due("fault() then", desk.roll.fault(), NONE);
        desk.law("age 1;strike if dead");
        Edge.due("an empty TAPE", desk.roll.law(), 0);
        Edge.due("count(2) then", desk.roll.count(2), 0);
        Edge.due("400 blanks", desk.law(" ".repeat(400)), 0);
    }

    private static void lawRefused() {
        Edge.of("-6: it stays, FAULT is told.");
        Desk desk = new Desk();
        desk.law("age 7;nodoor 5;strike if nohome or not dead");
        desk.tell("a,", 5, 0, 60, 7);
        desk.tell("b,", 4, 0, NONE, 7);
        Edge.due("a FAULT in the last", desk.law("age 9;nodoor 6;strike if dead;quiet"), -6);
        Edge.due("FAULT", desk.roll.fault(), 35);
        Edge.due("status()", desk.roll.status(), -6);
        Edge.due("it stays: CLAUSES", desk.roll.count(2), 3);
        Edge.due("it stays: FACTS", desk.roll.count(3), 2);
        Edge.due("it stays: age", desk.roll.line(0, 7, 7), 1);
        Edge.due("it stays: nodoor", desk.roll.of(1, 7, 7, 1), 5);
        Edge.due("it stays: the CAUSE", desk.roll.cause(0, 7, 7), 1);
        Edge.due("the TAPE is empty then", desk.roll.count(7), 0);
        Edge.due("what goes well", desk.law("age 9"), 1);
        Edge.due("its FAULT", desk.roll.fault(), NONE);
        Edge.due("it is another one then", desk.roll.line(0, 7, 7), 3);
    }
}
