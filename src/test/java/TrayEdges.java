/** Edges of promises 1 to 8: a new object, STATUS, FRACTION, TRAYS. */
final class TrayEdges {
    private static final int BIG = Integer.MAX_VALUE;
    private static final int LOW = Integer.MIN_VALUE;
    /** How many bits the numbers of a sort have. */
    private static final int[] BITS = {8, 16, 32, 64};

    private TrayEdges() {
    }

    @Edge(promise = 1, says = "A HOUSE of nothing")
    static void newHouseOfNothing() {
        DoorTongue x = new DoorTongue();
        for (int what : new int[] {0, 1, 2, 3, 5, 6}) {
            Check.good(x, "told(" + what + ")", x.told(what), 0);
        }
        Check.bad(x, "door(0, 0)", x.door(0, 0), 1);
        Check.bad(x, "says(0)", x.says(0), 1);
        Check.bad(x, "person(0, 0)", x.person(0, 0), 1);
        Check.bad(x, "come(0)", x.come(0), 1);
        Check.bad(x, "part(0)", x.part(0), 1);
    }

    @Edge(promise = 1, says = "ODDS 4; no DAYS, MARKS")
    static void newOdds() {
        DoorTongue x = new DoorTongue();
        Check.good(x, "told(4)", x.told(4), 4);
        x.gale(1, 1);
        Check.fraction(x, "gale(1, 1)", 1, 4);
    }

    @Edge(promise = 1, says = "no DAYS, MARKS")
    static void newWithoutDays() {
        DoorTongue x = new DoorTongue();
        Check.bad(x, "live(0)", x.live(0), 6);
        Check.bad(x, "mean(0, 1)", x.mean(0, 1), 6);
    }

    @Edge(promise = 1, says = "no DAYS, MARKS")
    static void newWithoutMarks() {
        DoorTongue x = new DoorTongue();
        Check.bad(x, "undo()", x.undo(), 6);
        Check.good(x, "mark()", x.mark(), 1);
    }

    @Edge(promise = 1, says = "TRAYS are MISSING")
    static void newTraysAreMissing() {
        DoorTongue x = new DoorTongue();
        for (int tray = 0; tray < 4; tray++) {
            Check.bad(x, "read(" + tray + ", 0)", x.read(tray, 0), 2);
            Check.bad(x, "write(" + tray + ", 0, 0)", x.write(tray, 0, 0), 2);
            Check.bad(x, "copyRooms(" + tray + ")", x.copyRooms(tray), 2);
        }
    }

    @Edge(promise = 1, says = "an empty tape")
    static void newTapeIsEmpty() {
        DoorTongue x = new DoorTongue();
        Check.bad(x, "house(1)", x.house(1), 1);
        Check.bad(x, "days(1)", x.days(1), 1);
        Check.due("feed()", x.feed(0, 0, 0, 0, 0), 20);
    }

    @Edge(promise = 1, says = "the FRACTION 0 by 1; STATUS 0")
    static void newFractionAndStatus() {
        DoorTongue x = new DoorTongue();
        Check.due("status()", x.status(), 0);
        Check.fraction(x, "new", 0, 1);
        Check.due("status()", x.status(), 0);
    }

    @Edge(promise = 1, says = "A HOUSE of nothing; ODDS 4; no DAYS, MARKS; TRAYS are MISSING")
    static void newBesideAnotherObject() {
        DoorTongue x = Check.with(PromiseTests.PLAIN, "any;");
        x.tray(0, 0, 5);
        x.mark();
        x.gale(1, 1);
        x.told(9);
        newHouseOfNothing();
        newOdds();
        newWithoutDays();
        newWithoutMarks();
        newTraysAreMissing();
        newFractionAndStatus();
        Check.good(x, "told(0) of the other one", x.told(0), 4);
    }

    @Edge(promise = 1, says = "An object is used for at most 512 calls after it has been made")
    static void fiveHundredAndTwelveCalls() {
        DoorTongue x = new DoorTongue();
        // room a;room b;door a b open;person p in a;person q in b;
        x.feed(0x726f6f6d, 0x20613b72, 0x6f6f6d20, 0x623b646f, 0x6f722061);
        x.feed(0x2062206f, 0x70656e3b, 0x70657273, 0x6f6e2070, 0x20696e20);
        x.feed(0x613b7065, 0x72736f6e, 0x20712069, 0x6e20623b, 0x20202020);
        Check.due("house(60)", x.house(60), 2);
        // loop 99;close p 0 ajar;end;
        x.feed(0x6c6f6f70, 0x2039393b, 0x636c6f73, 0x65207020, 0x3020616a);
        x.feed(0x61723b65, 0x6e643b20, 0x20202020, 0x20202020, 0x20202020);
        Check.due("days(40)", x.days(40), 2);
        for (int calls = 7; calls < 511; calls++) {
            Check.due("live(0)", x.live(0), 100);
        }
        Check.due("told(6), the 512th call", x.told(6), 99 * 504);
    }

    @Edge(promise = 2, says = "STATUS of the latest call that has one")
    static void statusIsOfTheLatest() {
        DoorTongue x = new DoorTongue();
        int[] want = {1, 2, 0, 3, 6, 0, 1};
        int at = 0;
        x.told(7);
        Check.due("STATUS of told(7)", x.status(), want[at++]);
        x.read(0, 0);
        Check.due("STATUS of read(0, 0)", x.status(), want[at++]);
        x.tray(0, 0, 0);
        Check.due("STATUS of tray(0, 0, 0)", x.status(), want[at++]);
        x.read(0, 0);
        Check.due("STATUS of read(0, 0)", x.status(), want[at++]);
        x.undo();
        Check.due("STATUS of undo()", x.status(), want[at++]);
        x.mark();
        Check.due("STATUS of mark()", x.status(), want[at++]);
        x.live(-1);
        Check.due("STATUS of live(-1)", x.status(), want[at]);
    }

    @Edge(promise = 2, says = "status(), top(), bottom(), feed(), fault() have none")
    static void callsWithoutStatus() {
        DoorTongue x = new DoorTongue();
        for (int status = 0; status < 2; status++) {
            x.told(status == 0 ? 0 : 7);
            x.top();
            Check.due("STATUS behind top()", x.status(), status);
            x.bottom();
            Check.due("STATUS behind bottom()", x.status(), status);
            x.fault(0);
            Check.due("STATUS behind fault(0)", x.status(), status);
            x.fault(-1);
            Check.due("STATUS behind fault(-1)", x.status(), status);
            x.feed(1, 2, 3, 4, 5);
            Check.due("STATUS behind feed()", x.status(), status);
            Check.due("STATUS behind status()", x.status(), status);
        }
    }

    @Edge(promise = 2, says = "status(), top(), bottom(), feed(), fault() have none")
    static void feedBeyondTheTapeHasNoStatus() {
        DoorTongue x = new DoorTongue();
        for (int i = 0; i < 45; i++) {
            x.feed(0, 0, 0, 0, 0);
        }
        x.told(0);
        Check.due("feed() beyond", x.feed(0, 0, 0, 0, 0), -1);
        Check.due("STATUS behind it", x.status(), 0);
    }

    @Edge(promise = 3, says = "The top of the FRACTION told latest.")
    static void topOfTheLatest() {
        DoorTongue x = Check.with("room a;room b;door a b open;", "stop;");
        x.gale(2, 1);
        Check.due("top() of gale(2, 1)", x.top(), 7);
        x.mean(0, 3);
        Check.due("top() of mean(0, 3)", x.top(), 1);
        x.gale(2, 0);
        Check.due("top() of gale(2, 0)", x.top(), 1);
        x.gale(2, 3);
        Check.due("top() of gale(2, 3)", x.top(), 0);
    }

    @Edge(promise = 3, says = "gives NONE, or false, and changes nothing else")
    static void refusedFractionStays() {
        DoorTongue x = new DoorTongue();
        x.gale(2, 1);
        Check.bad(x, "gale(13, 1)", x.gale(13, 1), 1);
        Check.fraction(x, "behind gale(13, 1)", 7, 16);
        Check.bad(x, "mean(-1, 1)", x.mean(-1, 1), 1);
        Check.fraction(x, "behind mean(-1, 1)", 7, 16);
        Check.bad(x, "mean(0, 1)", x.mean(0, 1), 6);
        Check.fraction(x, "behind mean(0, 1)", 7, 16);
    }

    @Edge(promise = 4, says = "FRACTIONS are told by top() and bottom() without a common divisor")
    static void withoutACommonDivisor() {
        DoorTongue x = new DoorTongue();
        x.rule(12);
        x.gale(1, 1);
        Check.fraction(x, "12 by 16", 3, 4);
        x.rule(16);
        x.gale(12, 12);
        Check.fraction(x, "all by all", 1, 1);
    }

    @Edge(promise = 4, says = "the bottom above 0; 0 is 0 by 1")
    static void nothingIsNothingByOne() {
        DoorTongue x = Check.with("room a;room b;door a b;", "stop;");
        x.gale(12, 11);
        x.gale(11, 12);
        Check.fraction(x, "gale(11, 12)", 0, 1);
        x.gale(12, 11);
        x.mean(0, 20);
        Check.fraction(x, "mean() of none that is OPEN", 0, 1);
        x.gale(12, 11);
        x.rule(0);
        x.gale(12, 1);
        Check.fraction(x, "gale() by ODDS 0", 0, 1);
    }

    @Edge(promise = 5, says = "TRAYS 0 to 3")
    static void trayNumbers() {
        DoorTongue x = new DoorTongue();
        Check.good(x, "tray(0, 0, 1)", x.tray(0, 0, 1));
        Check.good(x, "tray(3, 0, 1)", x.tray(3, 0, 1));
        Check.bad(x, "tray(-1, 0, 1)", x.tray(-1, 0, 1), 1);
        Check.bad(x, "tray(4, 0, 1)", x.tray(4, 0, 1), 1);
        Check.bad(x, "tray(LOW, 0, 1)", x.tray(LOW, 0, 1), 1);
        Check.bad(x, "tray(BIG, 0, 1)", x.tray(BIG, 0, 1), 1);
        Check.bad(x, "read(1, 0)", x.read(1, 0), 2);
    }

    @Edge(promise = 5, says = "numbers of 8 bits (sort 0), 16 (1), 32 (2) or 64 (3)")
    static void traySorts() {
        DoorTongue x = new DoorTongue();
        for (int sort = 0; sort < 4; sort++) {
            Check.good(x, "tray(0, " + sort + ", 1)", x.tray(0, sort, 1));
        }
        Check.bad(x, "tray(0, -1, 1)", x.tray(0, -1, 1), 1);
        Check.bad(x, "tray(0, 4, 1)", x.tray(0, 4, 1), 1);
        Check.bad(x, "tray(0, LOW, 1)", x.tray(0, LOW, 1), 1);
        Check.bad(x, "tray(0, BIG, 1)", x.tray(0, BIG, 1), 1);
    }

    @Edge(promise = 5, says = "rows of 0 to 60 numbers")
    static void rowOfSixty() {
        DoorTongue x = new DoorTongue();
        for (int sort = 0; sort < 4; sort++) {
            Check.good(x, "tray(" + sort + ", " + sort + ", 60)", x.tray(sort, sort, 60));
            Check.good(x, "write(" + sort + ", 59, 7)", x.write(sort, 59, 7));
            Check.good(x, "read(" + sort + ", 59)", x.read(sort, 59), 7);
            Check.bad(x, "read(" + sort + ", 60)", x.read(sort, 60), 3);
        }
    }

    @Edge(promise = 5, says = "rows of 0 to 60 numbers")
    static void rowOfSixtyOne() {
        DoorTongue x = new DoorTongue();
        Check.bad(x, "tray(0, 0, 61)", x.tray(0, 0, 61), 1);
        Check.bad(x, "tray(0, 0, BIG)", x.tray(0, 0, BIG), 1);
        Check.bad(x, "read(0, 0)", x.read(0, 0), 2);
    }

    @Edge(promise = 5, says = "rows of 0 to 60 numbers")
    static void rowOfNone() {
        DoorTongue x = new DoorTongue();
        Check.good(x, "tray(0, 0, 0)", x.tray(0, 0, 0));
        Check.bad(x, "read(0, 0) of a row of none", x.read(0, 0), 3);
        Check.bad(x, "write(0, 0, 1) of a row of none", x.write(0, 0, 1), 3);
        Check.bad(x, "tray(1, 0, -1)", x.tray(1, 0, -1), 1);
        Check.bad(x, "tray(1, 0, LOW)", x.tray(1, 0, LOW), 1);
        Check.bad(x, "read(1, 0)", x.read(1, 0), 2);
    }

    @Edge(promise = 5, says = "A TRAY is a row of so many 0s")
    static void rowOfZerosInPlaceOfAnother() {
        DoorTongue x = new DoorTongue();
        x.tray(0, 3, 60);
        for (int i = 0; i < 60; i++) {
            x.write(0, i, i - 99);
        }
        Check.good(x, "tray(0, 0, 59)", x.tray(0, 0, 59));
        for (int i = 0; i < 59; i++) {
            Check.good(x, "read(0, " + i + ")", x.read(0, i), 0);
        }
        Check.bad(x, "read(0, 59)", x.read(0, 59), 3);
        x.tray(0, 3, 60);
        Check.good(x, "read(0, 59) of a longer row", x.read(0, 59), 0);
    }

    @Edge(promise = 5, says = "gives NONE, or false, and changes nothing else")
    static void refusedTrayStays() {
        DoorTongue x = new DoorTongue();
        x.tray(0, 1, 2);
        x.write(0, 1, 300);
        Check.bad(x, "tray(0, 0, 61)", x.tray(0, 0, 61), 1);
        Check.bad(x, "tray(0, 4, 1)", x.tray(0, 4, 1), 1);
        Check.good(x, "read(0, 1)", x.read(0, 1), 300);
        Check.good(x, "write(0, 1, 400), still of 16 bits", x.write(0, 1, 400));
        Check.good(x, "read(0, 1)", x.read(0, 1), 400);
    }

    @Edge(promise = 6, says = "A number comes to a place of a TRAY, cut to its sort")
    static void greatestAndLeastOfASort() {
        DoorTongue x = new DoorTongue();
        for (int sort = 0; sort < 4; sort++) {
            long most = Long.MAX_VALUE >> 64 - BITS[sort];
            x.tray(sort, sort, 3);
            for (long v : new long[] {most, -most - 1, 0, -1, 1}) {
                Check.good(x, "write(" + sort + ", 1, " + v + ")", x.write(sort, 1, v));
                Check.good(x, "read(" + sort + ", 1)", x.read(sort, 1), v);
            }
        }
    }

    @Edge(promise = 6, says = "cut to its sort")
    static void cutWrapsAround() {
        DoorTongue x = new DoorTongue();
        for (int sort = 0; sort < 3; sort++) {
            long whole = 1L << BITS[sort];
            x.tray(sort, sort, 1);
            long[][] rows = {{whole / 2, -whole / 2}, {-whole / 2 - 1, whole / 2 - 1}, {whole, 0}, {whole - 1, -1},
                {-whole, 0}, {whole * 3 + 5, 5}, {Long.MAX_VALUE, -1}, {Long.MIN_VALUE, 0}};
            for (long[] row : rows) {
                Check.good(x, "write(" + sort + ", 0, " + row[0] + ")", x.write(sort, 0, row[0]));
                Check.good(x, "read(" + sort + ", 0) of " + row[0], x.read(sort, 0), row[1]);
            }
        }
    }

    @Edge(promise = 6, says = "A number comes to a place of a TRAY")
    static void otherPlacesStay() {
        DoorTongue x = new DoorTongue();
        Check.fill(x, 0, 1, 2, 3);
        Check.fill(x, 1, 4, 5, 6);
        Check.good(x, "write(0, 0, 9)", x.write(0, 0, 9));
        Check.good(x, "write(0, 2, 8)", x.write(0, 2, 8));
        int[] want = {9, 2, 8};
        for (int i = 0; i < 3; i++) {
            Check.good(x, "read(0, " + i + ")", x.read(0, i), want[i]);
            Check.good(x, "read(1, " + i + ")", x.read(1, i), i + 4);
        }
    }

    @Edge(promise = 5, says = "TRAYS 0 to 3")
    static void eachTrayForItself() {
        DoorTongue x = Check.with("room a;room b;door a b open;door a b open;word w says slam;word v says shut;"
            + "word u says slam shut;person p in b;person q in b knows w v u;");
        Check.fill(x, 0, 1, 0);
        Check.fill(x, 1, 0, 1);
        Check.fill(x, 2, 1, 1);
        Check.fill(x, 3, 0, 9);
        int[] sounds = {1, 2, 1};
        int[] words = {1, 2, 1};
        for (int tray = 0; tray < 3; tray++) {
            Check.good(x, "means(1, " + tray + ", 2)", x.means(1, tray, 2), sounds[tray]);
            Check.good(x, "unsaid(1, " + tray + ", 2)", x.unsaid(1, tray, 2), words[tray]);
        }
        Check.good(x, "culprits(0, 2)", x.culprits(0, 2), 3);
        Check.good(x, "culprits(1, 2)", x.culprits(1, 2), 3);
        Check.bad(x, "culprits(2, 2)", x.culprits(2, 2), 5);
        Check.bad(x, "means(1, 3, 2)", x.means(1, 3, 2), 5);
        Check.bad(x, "unsaid(1, 3, 2)", x.unsaid(1, 3, 2), 5);
        Check.bad(x, "culprits(3, 2)", x.culprits(3, 2), 5);
        Check.bad(x, "coin(3, 2)", x.coin(3, 2), 5);
        Check.good(x, "coin(2, 2)", x.coin(2, 2), 3);
        Check.good(x, "saysAt(3, 0)", x.saysAt(3, 0), 1);
        Check.good(x, "copyRooms(3)", x.copyRooms(3), 2);
        Check.good(x, "read(3, 0)", x.read(3, 0), 1);
        Check.good(x, "read(3, 1)", x.read(3, 1), 1);
        Check.good(x, "read(0, 1)", x.read(0, 1), 0);
    }

    @Edge(promise = 6, says = "3 a place that the TRAY has not")
    static void writeBeyondTheRow() {
        DoorTongue x = new DoorTongue();
        Check.fill(x, 0, 1, 2, 3);
        for (int place : new int[] {-1, LOW, 3, 59, 60, BIG}) {
            Check.bad(x, "write(0, " + place + ", 9)", x.write(0, place, 9), 3);
        }
        x.tray(0, 0, 60);
        Check.good(x, "read(0, 3)", x.read(0, 3), 0);
    }

    @Edge(promise = 6, says = "A number comes to a place of a TRAY, cut to its sort (1, 2, 3).")
    static void writeRefusedInOrder() {
        DoorTongue x = new DoorTongue();
        Check.bad(x, "write(-1, -1, 9)", x.write(-1, -1, 9), 1);
        Check.bad(x, "write(4, 0, 9)", x.write(4, 0, 9), 1);
        Check.bad(x, "write(0, -1, 9)", x.write(0, -1, 9), 2);
        Check.bad(x, "write(0, BIG, 9)", x.write(0, BIG, 9), 2);
        x.tray(0, 0, 1);
        Check.bad(x, "write(0, 1, 9)", x.write(0, 1, 9), 3);
    }

    @Edge(promise = 7, says = "STATUS tells NONE from -1")
    static void noneAndMinusOne() {
        DoorTongue x = new DoorTongue();
        for (int sort = 0; sort < 4; sort++) {
            x.tray(0, sort, 1);
            x.write(0, 0, -1);
            Check.good(x, "read(0, 0)", x.read(0, 0), -1);
            Check.bad(x, "read(0, 1)", x.read(0, 1), 3);
        }
    }

    @Edge(promise = 7, says = "3 a place that the TRAY has not")
    static void readBeyondTheRow() {
        DoorTongue x = new DoorTongue();
        Check.fill(x, 0, 1, 2, 3);
        Check.good(x, "read(0, 0)", x.read(0, 0), 1);
        Check.good(x, "read(0, 2)", x.read(0, 2), 3);
        for (int place : new int[] {-1, LOW, 3, 59, 60, BIG}) {
            Check.bad(x, "read(0, " + place + ")", x.read(0, place), 3);
        }
    }

    @Edge(promise = 7, says = "The number in a place of a TRAY; STATUS tells NONE from -1 (1, 2, 3).")
    static void readRefusedInOrder() {
        DoorTongue x = new DoorTongue();
        Check.bad(x, "read(-1, -1)", x.read(-1, -1), 1);
        Check.bad(x, "read(4, 0)", x.read(4, 0), 1);
        Check.bad(x, "read(0, -1)", x.read(0, -1), 2);
        Check.bad(x, "read(0, BIG)", x.read(0, BIG), 2);
    }

    private static void rowIs(DoorTongue x, int tray, int... want) {
        for (int i = 0; i < want.length; i++) {
            Check.good(x, "read(" + tray + ", " + i + ")", x.read(tray, i), want[i]);
        }
        Check.bad(x, "read(" + tray + ", " + want.length + ")", x.read(tray, want.length), 3);
    }

    @Edge(promise = 8, says = "come to another one's (or its own) place on, as they were")
    static void pourUpOnItself() {
        DoorTongue x = new DoorTongue();
        Check.fill(x, 0, 1, 2, 3, 4, 5);
        Check.good(x, "pour(0, 0, 0, 1, 4)", x.pour(0, 0, 0, 1, 4));
        rowIs(x, 0, 1, 1, 2, 3, 4);
    }

    @Edge(promise = 8, says = "come to another one's (or its own) place on, as they were")
    static void pourDownOnItself() {
        DoorTongue x = new DoorTongue();
        Check.fill(x, 0, 1, 2, 3, 4, 5);
        Check.good(x, "pour(0, 1, 0, 0, 4)", x.pour(0, 1, 0, 0, 4));
        rowIs(x, 0, 2, 3, 4, 5, 5);
    }

    @Edge(promise = 8, says = "So many numbers of a TRAY, from a place on")
    static void pourAllSixty() {
        DoorTongue x = new DoorTongue();
        x.tray(1, 3, 60);
        x.tray(2, 3, 60);
        x.write(1, 0, Long.MIN_VALUE);
        x.write(1, 59, Long.MAX_VALUE);
        Check.good(x, "pour(1, 0, 2, 0, 60)", x.pour(1, 0, 2, 0, 60));
        Check.good(x, "read(2, 0)", x.read(2, 0), Long.MIN_VALUE);
        Check.good(x, "read(2, 59)", x.read(2, 59), Long.MAX_VALUE);
        Check.good(x, "read(1, 59) stays", x.read(1, 59), Long.MAX_VALUE);
        Check.bad(x, "pour(1, 0, 2, 0, 61)", x.pour(1, 0, 2, 0, 61), 3);
    }

    @Edge(promise = 8, says = "So many numbers of a TRAY, from a place on")
    static void pourNone() {
        DoorTongue x = new DoorTongue();
        Check.fill(x, 0, 1, 2);
        Check.fill(x, 1, 3);
        Check.good(x, "pour(0, 2, 1, 1, 0)", x.pour(0, 2, 1, 1, 0));
        Check.good(x, "pour(0, 0, 1, 0, 0)", x.pour(0, 0, 1, 0, 0));
        rowIs(x, 0, 1, 2);
        rowIs(x, 1, 3);
    }

    @Edge(promise = 8, says = "So many numbers of a TRAY, from a place on")
    static void pourToTheLastPlace() {
        DoorTongue x = new DoorTongue();
        Check.fill(x, 0, 1, 2, 3);
        Check.fill(x, 1, 4, 5);
        Check.good(x, "pour(0, 2, 1, 1, 1)", x.pour(0, 2, 1, 1, 1));
        rowIs(x, 1, 4, 3);
        Check.good(x, "pour(0, 0, 1, 0, 2)", x.pour(0, 0, 1, 0, 2));
        rowIs(x, 1, 1, 2);
    }

    @Edge(promise = 8, says = "(1: below 0, too; 2; 8; 3; asked in this order)")
    static void pourBelowZero() {
        DoorTongue x = new DoorTongue();
        Check.bad(x, "pour(-1, 0, 0, 0, 0)", x.pour(-1, 0, 0, 0, 0), 1);
        Check.bad(x, "pour(4, 0, 0, 0, 0)", x.pour(4, 0, 0, 0, 0), 1);
        Check.bad(x, "pour(0, 0, -1, 0, 0)", x.pour(0, 0, -1, 0, 0), 1);
        Check.bad(x, "pour(0, 0, 4, 0, 0)", x.pour(0, 0, 4, 0, 0), 1);
        Check.bad(x, "pour(0, -1, 1, 0, 0)", x.pour(0, -1, 1, 0, 0), 1);
        Check.bad(x, "pour(0, 0, 1, -1, 0)", x.pour(0, 0, 1, -1, 0), 1);
        Check.bad(x, "pour(0, 0, 1, 0, -1)", x.pour(0, 0, 1, 0, -1), 1);
        Check.bad(x, "pour(0, 0, 1, 0, LOW)", x.pour(0, 0, 1, 0, LOW), 1);
    }

    @Edge(promise = 8, says = "(1: below 0, too; 2; 8; 3; asked in this order)")
    static void pourOfMissing() {
        DoorTongue x = new DoorTongue();
        x.tray(0, 0, 2);
        Check.bad(x, "pour(0, 9, 1, 9, 9)", x.pour(0, 9, 1, 9, 9), 2);
        Check.bad(x, "pour(1, 9, 0, 9, 9)", x.pour(1, 9, 0, 9, 9), 2);
        Check.bad(x, "pour(2, 0, 2, 0, 0)", x.pour(2, 0, 2, 0, 0), 2);
    }

    @Edge(promise = 8, says = "(1: below 0, too; 2; 8; 3; asked in this order)")
    static void pourOfUnlikeSorts() {
        DoorTongue x = new DoorTongue();
        for (int sort = 0; sort < 4; sort++) {
            x.tray(sort, sort, 2);
        }
        for (int one = 0; one < 4; one++) {
            for (int other = 0; other < 4; other++) {
                String call = "pour(" + one + ", 9, " + other + ", 9, 9)";
                Check.bad(x, call, x.pour(one, 9, other, 9, 9), one == other ? 3 : 8);
            }
        }
        Check.bad(x, "pour(0, 0, 1, 0, 0)", x.pour(0, 0, 1, 0, 0), 8);
    }

    @Edge(promise = 8, says = "3 a place that the TRAY has not, or too few numbers")
    static void pourOfTooFew() {
        DoorTongue x = new DoorTongue();
        Check.fill(x, 0, 1, 2);
        Check.fill(x, 1, 3, 4, 5);
        Check.bad(x, "pour(0, 0, 1, 0, 3)", x.pour(0, 0, 1, 0, 3), 3);
        Check.bad(x, "pour(0, 1, 1, 0, 2)", x.pour(0, 1, 1, 0, 2), 3);
        Check.bad(x, "pour(1, 0, 0, 0, 3)", x.pour(1, 0, 0, 0, 3), 3);
        Check.bad(x, "pour(1, 0, 0, 1, 2)", x.pour(1, 0, 0, 1, 2), 3);
        Check.bad(x, "pour(0, 3, 1, 0, 0)", x.pour(0, 3, 1, 0, 0), 3);
        Check.bad(x, "pour(0, 0, 1, 4, 0)", x.pour(0, 0, 1, 4, 0), 3);
        Check.bad(x, "pour(0, BIG, 1, 0, 1)", x.pour(0, BIG, 1, 0, 1), 3);
        Check.bad(x, "pour(0, 0, 1, BIG, 1)", x.pour(0, 0, 1, BIG, 1), 3);
        Check.bad(x, "pour(0, 1, 1, 1, BIG)", x.pour(0, 1, 1, 1, BIG), 3);
        Check.bad(x, "pour(0, BIG, 1, BIG, BIG)", x.pour(0, BIG, 1, BIG, BIG), 3);
        rowIs(x, 0, 1, 2);
        rowIs(x, 1, 3, 4, 5);
    }
}
