import java.util.List;

/** Edges of promises 9 to 12: the tape, house(), days(), fault(). */
final class TapeEdges {
    private static final int BIG = Integer.MAX_VALUE;
    private static final int LOW = Integer.MIN_VALUE;
    private static final int BLANKS = 0x20202020;

    private TapeEdges() {
    }

    private static void blanks(DoorTongue x, int times) {
        for (int i = 0; i < times; i++) {
            x.feed(BLANKS, BLANKS, BLANKS, BLANKS, BLANKS);
        }
    }

    @Edge(promise = 9, says = "Twenty bytes come behind those on the tape, the highest of each int first")
    static void theHighestByteFirst() {
        DoorTongue x = new DoorTongue();
        Check.due("feed()", x.feed(0x726f6f6d, 0x20610a3b, 0x6f646473, 0x31363b72, 0x6f6f6d20), 20);
        Check.due("feed()", x.feed(0x623b7065, 0x72736f6e, 0x20702069, 0x6e20623b, 0xff000000), 40);
        Check.good(x, "house(36)", x.house(36), 1);
        Check.good(x, "told(0)", x.told(0), 2);
        Check.good(x, "told(4)", x.told(4), 16);
        Check.good(x, "person(0, 0)", x.person(0, 0), 1);
    }

    @Edge(promise = 9, says = "Twenty bytes come behind those on the tape, the highest of each int first")
    static void eachByteInItsPlace() {
        for (int place = 0; place < 20; place++) {
            DoorTongue x = new DoorTongue();
            int[] five = {BLANKS, BLANKS, BLANKS, BLANKS, BLANKS};
            int shift = 24 - place % 4 * 8;
            five[place / 4] = BLANKS & ~(255 << shift) | 0xe1 << shift;
            blanks(x, 1);
            Check.due("feed()", x.feed(five[0], five[1], five[2], five[3], five[4]), 40);
            Check.bad(x, "house(40)", x.house(40), 9);
            Check.due("fault(0)", x.fault(0), 1);
            Check.due("fault(1)", x.fault(1), 20 + place);
        }
    }

    @Edge(promise = 9, says = "how many it has; NONE if there would be more than 900")
    static void nineHundredBytes() {
        DoorTongue x = new DoorTongue();
        for (int many = 20; many <= 900; many += 20) {
            Check.due("feed()", x.feed(BLANKS, BLANKS, BLANKS, BLANKS, BLANKS), many);
        }
        Check.due("feed() beyond", x.feed(0x24242424, 0, 0, 0, 0), -1);
        Check.due("feed() beyond, again", x.feed(0x24242424, 0, 0, 0, 0), -1);
        Check.bad(x, "house(901)", x.house(901), 1);
        Check.good(x, "house(900) of the old bytes", x.house(900), 0);
        Check.due("feed() on an empty tape", x.feed(0, 0, 0, 0, 0), 20);
    }

    @Edge(promise = 9, says = "NONE if there would be more than 900")
    static void theTapeIsEmptyForTheNext() {
        DoorTongue x = new DoorTongue();
        for (int i = 0; i < 3; i++) {
            blanks(x, 45);
            Check.due("feed() beyond", x.feed(0, 0, 0, 0, 0), -1);
            Check.good(x, "house(900)", x.house(900), 0);
        }
        blanks(x, 45);
        Check.good(x, "days(0)", x.days(0), 0);
        Check.due("feed()", x.feed(0, 0, 0, 0, 0), 20);
    }

    @Edge(promise = 10, says = "A HOUSE is a TEXT of at most 900 bytes.")
    static void aTextOfNineHundredBytes() {
        DoorTongue x = new DoorTongue();
        String text = "room a;" + "\n".repeat(873) + "person p in a deaf9;";
        Check.due("feed()", Check.feed(x, text), 900);
        Check.good(x, "house(900)", x.house(900), 1);
        Check.good(x, "person(0, 1)", x.person(0, 1), 9);
        Check.feed(x, "\n".repeat(899) + "$");
        Check.bad(x, "house(900)", x.house(900), 9);
        Check.due("fault(0)", x.fault(0), 1);
        Check.due("fault(1)", x.fault(1), 899);
        Check.feed(x, " ".repeat(896) + "odds");
        Check.bad(x, "house(900)", x.house(900), 9);
        Check.due("fault(0)", x.fault(0), 2);
        Check.due("fault(1)", x.fault(1), 900);
    }

    @Edge(promise = 10, says = "A HOUSE is a TEXT of at most 900 bytes.")
    static void aFullTapeThatEndsWithinAWord() {
        for (String word : Check.RESERVED) {
            for (int length = 1; length <= word.length(); length++) {
                String end = word.substring(0, length);
                boolean isPart = List.of("odds", "room", "door", "word", "person").contains(end);
                Check.houseFault(" ".repeat(900 - length) + (isPart ? end + "^" : "^" + end), 2);
            }
        }
        Check.houseFault(" ".repeat(895) + "^12345", 1);
        Check.houseFault(" ".repeat(896) + "^1234", 2);
        Check.houseFault(" ".repeat(899) + "^;", 2);
    }

    @Edge(promise = 10, says = "The first n bytes of the tape (which is empty then) are the HOUSE: how many PEOPLE")
    static void theFirstBytesAlone() {
        DoorTongue x = new DoorTongue();
        Check.feed(x, "room a;room b;person p in a;$");
        Check.good(x, "house(7)", x.house(7), 0);
        Check.good(x, "told(0)", x.told(0), 1);
        Check.bad(x, "house(1): the tape is empty then", x.house(1), 1);
        Check.feed(x, "room a;room b;person p in a;$");
        Check.good(x, "house(28)", x.house(28), 1);
        Check.feed(x, "room a;room b;person p in a;$");
        Check.bad(x, "house(29)", x.house(29), 9);
        Check.feed(x, "room a;room b;person p in a;$");
        Check.bad(x, "house(27)", x.house(27), 9);
        Check.due("fault(1)", x.fault(1), 27);
    }

    @Edge(promise = 10, says = "(1: n below 0, or more than the tape has, too; 9: the old one stays)")
    static void belowNoneAndMoreThanTheTapeHas() {
        DoorTongue x = new DoorTongue();
        Check.bad(x, "house(1) of an empty tape", x.house(1), 1);
        Check.feed(x, "room a;person p in a;room b;");
        Check.bad(x, "house(-1)", x.house(-1), 1);
        Check.bad(x, "house(LOW)", x.house(LOW), 1);
        Check.bad(x, "house(41)", x.house(41), 1);
        Check.bad(x, "house(BIG)", x.house(BIG), 1);
        Check.good(x, "told(0): nothing was taken", x.told(0), 0);
        Check.due("fault(0): nothing was read", x.fault(0), -1);
        Check.good(x, "house(28) of the tape that stayed", x.house(28), 1);
    }

    @Edge(promise = 10, says = "9: the old one stays")
    static void theOldHouseStays() {
        DoorTongue x = Check.with("odds 9;" + PromiseTests.PAIR + "word w says ajar;", "go p 0;");
        x.close(0, 0, 3);
        x.deafen(0, 5);
        String ahead = Check.all(x);
        String[] wrong = {"odds 1;room c;room d;door c d;word v says slam;person r in c deaf 3 knows v;$", "$",
            "odds 17;", "person p in a;", "room a;room a;"};
        for (String text : wrong) {
            Check.bad(x, "house(" + text + ")", Check.house(x, text), 9);
            Check.same("house(" + text + ")", Check.all(x), ahead);
            Check.bad(x, "house(1): the tape is empty then", x.house(1), 1);
        }
        Check.good(x, "days() by the old NAMES", Check.days(x, "go q 0;forget q;"), 2);
        Check.good(x, "live(0)", x.live(0), 2);
    }

    @Edge(promise = 12, says = "NONE for others, and ahead of any.")
    static void faultAheadOfAny() {
        DoorTongue x = new DoorTongue();
        for (int what : new int[] {0, 1, 2, -1, BIG, LOW}) {
            Check.due("fault(" + what + ")", x.fault(what), -1);
        }
        x.house(1);
        x.days(-1);
        Check.due("fault(0) behind STATUS 1", x.fault(0), -1);
        Check.due("fault(1) behind STATUS 1", x.fault(1), -1);
    }

    @Edge(promise = 12, says = "what 0: the FAULT (0 without one), 1: its place (NONE without). NONE for others")
    static void faultWithAndWithoutOne() {
        DoorTongue x = new DoorTongue();
        Check.house(x, "");
        Check.due("fault(0)", x.fault(0), 0);
        Check.due("fault(1)", x.fault(1), -1);
        Check.house(x, "$");
        Check.due("fault(0)", x.fault(0), 1);
        Check.due("fault(1)", x.fault(1), 0);
        for (int what : new int[] {2, -1, BIG, LOW}) {
            Check.due("fault(" + what + ")", x.fault(what), -1);
        }
        Check.days(x, " stop");
        Check.due("fault(0)", x.fault(0), 2);
        Check.due("fault(1)", x.fault(1), 5);
        Check.days(x, "stop;");
        Check.due("fault(0)", x.fault(0), 0);
        Check.due("fault(1)", x.fault(1), -1);
    }

    @Edge(promise = 12, says = "Of the latest house() or days() with STATUS 0 or 9")
    static void faultOfTheLatestThatWasRead() {
        DoorTongue x = new DoorTongue();
        Check.house(x, "odds 99;");
        x.house(1);
        x.days(301);
        x.live(0);
        Check.due("fault(0) behind others", x.fault(0), 4);
        Check.due("fault(1) behind others", x.fault(1), 5);
        x.mark();
        Check.house(x, "room a;room a;");
        x.undo();
        Check.due("fault(0) behind undo()", x.fault(0), 3);
        Check.due("fault(1) behind undo()", x.fault(1), 12);
        x.days(0);
        Check.due("fault(0) behind days(0)", x.fault(0), 0);
        Check.due("fault(1) behind days(0)", x.fault(1), -1);
    }
}
