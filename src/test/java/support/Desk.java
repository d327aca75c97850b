import java.nio.charset.StandardCharsets;

/** A roll with texts typed for it, and a tally of the answers that were not as due. */
final class Desk {
    private static int checks = 0;
    private static int wrong = 0;

    final VoteRoll roll = new VoteRoll();

    /** Puts a text behind the TAPE as it is, twenty bytes a call. */
    void type(String text) {
        byte[] bytes = text.getBytes(StandardCharsets.ISO_8859_1);
        int before = roll.count(7);
        for (int at = 0; at < bytes.length; at += 20) {
            roll.feed(four(bytes, at), four(bytes, at + 4), four(bytes, at + 8), four(bytes, at + 12),
                    four(bytes, at + 16));
        }
        roll.end(before + bytes.length);
    }

    static int four(byte[] bytes, int at) {
        int word = 0;
        for (int i = 0; i < 4; i++) {
            word = word << 8 | (at + i < bytes.length ? bytes[at + i] & 255 : 32);
        }
        return word;
    }

    int folds(String text) {
        type(text);
        return roll.folds();
    }

    int law(String text) {
        type(text);
        return roll.law();
    }

    /** The FAULT of a LAW; NONE, if it has none. */
    int lawFault(String text) {
        law(text);
        return roll.fault();
    }

    int foldsFault(String text) {
        folds(text);
        return roll.fault();
    }

    int record(String names, int list, int sort, int birth, int place, int number, int day, int known) {
        type(names);
        return roll.record(list, sort, birth, place, number, day, known);
    }

    /** A RECORD of list 0 without a number that is known from its DAY on. */
    int tell(String names, int sort, int birth, int place, int day) {
        return record(names, 0, sort, birth, place, -1, day, day);
    }

    /** So many RECORDS without names that say nothing, by two calls each: an object has 512 of them alone. */
    void fill(int records) {
        for (int i = 0; i < records; i++) {
            roll.feed(0x2c202020, 0x20202020, 0x20202020, 0x20202020, 0x20202020);
            roll.record(0, 6, -1, -1, -1, 0, 0);
        }
    }

    String folded(int record, int which) {
        StringBuilder text = new StringBuilder();
        for (int i = 0; i < roll.folded(record, which, -1); i++) {
            text.append((char) roll.folded(record, which, i));
        }
        return text.toString();
    }

    static void due(String what, long got, long want) {
        checks++;
        if (got != want) {
            wrong++;
            System.out.println(what + " answered " + got + ", due is " + want);
        }
    }

    static void due(String what, String got, String want) {
        checks++;
        if (!got.equals(want)) {
            wrong++;
            System.out.println(what + " answered " + got + ", due is " + want);
        }
    }

    static void finish() {
        System.out.println(checks + " answers looked at, " + wrong + " not as due");
        if (wrong != 0) {
            System.exit(1);
        }
    }
}
