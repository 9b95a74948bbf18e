/** Edges of what a STATUS is, and of what a call that is refused leaves as it was. */
final class StatusEdges {
    private static final int BIG = Integer.MAX_VALUE;
    private static final String FULL = "odds 9;room a;room b;room c;door a b baize 2 open;door a b;door b c open;"
        + "word z says slam;word y says shut;word x says latch;word w says ajar;word v says slam slam;"
        + "word u says slam shut;word t says slam latch;person p in a knows z;person q in b deaf 2 knows z y;"
        + "person r in c;person s in a;person o in b deaf 9;";

    private interface Calls {
        void on(DoorTongue x);
    }

    private StatusEdges() {
    }

    /** As many of all as there can be, something in each place, and 20 bytes on the tape. */
    private static DoorTongue full() {
        DoorTongue x = Check.with(FULL, "any;go p 0;any;");
        x.close(0, 0, 3);
        x.mark();
        x.live(3);
        x.mark();
        x.rule(5);
        x.close(2, 2, 2);
        x.mark();
        Check.fill(x, 0, 9, 2);
        x.tray(1, 3, 1);
        x.write(1, 0, 1L << 40);
        x.gale(2, 1);
        Check.days(x, "any");
        x.feed(0x726f6f6d, 0x20613b24, 0, 0, 0);
        return x;
    }

    /** No DAYS, no MARKS, none lived. */
    private static DoorTongue poor() {
        DoorTongue x = Check.with(PromiseTests.PAIR + "word w says slam;");
        Check.fill(x, 0, 0, 4, 0);
        x.gale(1, 1);
        x.feed(0x726f6f6d, 0x20613b24, 0, 0, 0);
        return x;
    }

    /** All that can be told, and what comes of it then. */
    private static String all(DoorTongue x) {
        StringBuilder told = new StringBuilder(Check.all(x)).append(x.fault(0)).append(x.fault(1));
        for (int tray = 0; tray < 4; tray++) {
            for (int place = 0; place < 3; place++) {
                told.append(' ').append(x.read(tray, place)).append('/').append(x.status());
            }
        }
        for (int what = 0; what < 5; what++) {
            told.append(' ').append(x.lived(what));
        }
        told.append(' ').append(x.live(7)).append(' ').append(x.told(5)).append(' ').append(x.told(6));
        for (int i = 0; i < 4; i++) {
            told.append(' ').append(x.undo()).append(' ').append(x.told(4)).append(' ').append(x.told(5));
        }
        told.append(' ').append(x.days(0)).append(' ').append(x.feed(0, 0, 0, 0, 0));
        return told.toString();
    }

    private static void changeNothing(DoorTongue x, DoorTongue twin, Calls calls) {
        calls.on(x);
        Check.same("all", all(x), all(twin));
    }

    @Edge(promise = 2, says = "With another STATUS than 0 a call gives NONE, or false, and changes nothing else")
    static void refusedTraysChangeNothing() {
        changeNothing(full(), full(), x -> {
            Check.bad(x, "tray(4, 0, 1)", x.tray(4, 0, 1), 1);
            Check.bad(x, "tray(0, 4, 1)", x.tray(0, 4, 1), 1);
            Check.bad(x, "tray(0, 0, 61)", x.tray(0, 0, 61), 1);
            Check.bad(x, "tray(0, 0, -1)", x.tray(0, 0, -1), 1);
            Check.bad(x, "write(4, 0, 1)", x.write(4, 0, 1), 1);
            Check.bad(x, "write(2, 0, 1)", x.write(2, 0, 1), 2);
            Check.bad(x, "write(0, 2, 1)", x.write(0, 2, 1), 3);
            Check.bad(x, "write(0, -1, 1)", x.write(0, -1, 1), 3);
            Check.bad(x, "read(0, 2)", x.read(0, 2), 3);
            Check.bad(x, "pour(0, 0, 0, 1, -1)", x.pour(0, 0, 0, 1, -1), 1);
            Check.bad(x, "pour(0, 0, 2, 0, 1)", x.pour(0, 0, 2, 0, 1), 2);
            Check.bad(x, "pour(0, 0, 1, 0, 1)", x.pour(0, 0, 1, 0, 1), 8);
            Check.bad(x, "pour(0, 0, 0, 1, 2)", x.pour(0, 0, 0, 1, 2), 3);
        });
    }

    @Edge(promise = 10, says = "but house(), days() with 9 the tape, and what fault() tells")
    static void refusedTextsChangeNothing() {
        changeNothing(full(), full(), x -> {
            Check.bad(x, "house(-1)", x.house(-1), 1);
            Check.bad(x, "house(21)", x.house(21), 1);
            Check.bad(x, "days(-1)", x.days(-1), 1);
            Check.bad(x, "days(21)", x.days(21), 1);
            Check.bad(x, "days(BIG)", x.days(BIG), 1);
        });
    }

    @Edge(promise = 10, says = "but house(), days() with 9 the tape, and what fault() tells")
    static void faultyTextsChangeTapeAndFaultAlone() {
        DoorTongue x = full();
        DoorTongue twin = full();
        Check.bad(x, "house(8)", x.house(8), 9);
        Check.due("fault(0)", x.fault(0), 1);
        Check.due("fault(1)", x.fault(1), 7);
        Check.bad(x, "house(1) of an empty tape", x.house(1), 1);
        Check.bad(x, "days()", Check.days(x, "any"), 9);
        Check.due("feed() on an empty tape", x.feed(0x726f6f6d, 0x20613b24, 0, 0, 0), 20);
        Check.same("all", all(x), all(twin));
    }

    @Edge(promise = 11, says = "but house(), days() with 9 the tape, and what fault() tells")
    static void faultyDaysChangeTapeAndFaultAlone() {
        DoorTongue x = full();
        DoorTongue twin = full();
        Check.bad(x, "days(20)", x.days(20), 9);
        Check.due("fault(0)", x.fault(0), 2);
        Check.due("fault(1)", x.fault(1), 0);
        Check.bad(x, "days(1) of an empty tape", x.days(1), 1);
        Check.bad(x, "house(1) of an empty tape", x.house(1), 1);
        Check.bad(x, "days()", Check.days(x, "any"), 9);
        x.feed(0x726f6f6d, 0x20613b24, 0, 0, 0);
        Check.same("all", all(x), all(twin));
    }

    @Edge(promise = 13, says = "With another STATUS than 0 a call gives NONE, or false, and changes nothing else")
    static void refusedQuestionsChangeNothing() {
        changeNothing(full(), full(), x -> {
            Check.bad(x, "told(7)", x.told(7), 1);
            Check.bad(x, "door(3, 0)", x.door(3, 0), 1);
            Check.bad(x, "door(0, 4)", x.door(0, 4), 1);
            Check.bad(x, "says(7)", x.says(7), 1);
            Check.bad(x, "saysAt(0, -1)", x.saysAt(0, -1), 1);
            Check.bad(x, "saysAt(0, 1)", x.saysAt(0, 1), 6);
            Check.bad(x, "person(5, 0)", x.person(5, 0), 1);
            Check.bad(x, "heardAt(0, -1)", x.heardAt(0, -1), 1);
            Check.bad(x, "heardAt(0, 8)", x.heardAt(0, 8), 6);
            Check.bad(x, "loss(0, 3)", x.loss(0, 3), 1);
            Check.bad(x, "hearers(0, 4)", x.hearers(0, 4), 1);
            Check.bad(x, "hears(5, 0)", x.hears(5, 0), 1);
            Check.bad(x, "hush(3, 0, 0)", x.hush(3, 0, 0), 1);
            Check.bad(x, "hush(0, 0, 0)", x.hush(0, 0, 0), 6);
            Check.bad(x, "secret(0, 1, 1, 0)", x.secret(0, 1, 1, 0), 1);
            Check.bad(x, "secret(0, 4, 1, 0)", x.secret(0, 4, 1, 0), 6);
        });
    }

    @Edge(promise = 19, says = "With another STATUS than 0 a call gives NONE, or false, and changes nothing else")
    static void refusedDeedsChangeNothing() {
        changeNothing(full(), full(), x -> {
            Check.bad(x, "close(0, 0, 4)", x.close(0, 0, 4), 1);
            Check.bad(x, "close(2, 0, 0)", x.close(2, 0, 0), 7);
            Check.bad(x, "close(2, 2, 0)", x.close(2, 2, 0), 7);
            Check.bad(x, "open(5, 0)", x.open(5, 0), 1);
            Check.bad(x, "open(2, 0)", x.open(2, 0), 7);
            Check.bad(x, "go(0, 3)", x.go(0, 3), 1);
            Check.bad(x, "go(2, 2)", x.go(2, 2), 7);
            Check.bad(x, "forget(5)", x.forget(5), 1);
            Check.bad(x, "forget(4)", x.forget(4), 7);
            Check.bad(x, "teach(0, 7, true)", x.teach(0, 7, true), 1);
            Check.bad(x, "teach(0, 0, true)", x.teach(0, 0, true), 7);
            Check.bad(x, "teach(4, 6, false)", x.teach(4, 6, false), 7);
            Check.bad(x, "coin(0, 0)", x.coin(0, 0), 1);
            Check.bad(x, "coin(2, 1)", x.coin(2, 1), 2);
            Check.bad(x, "coin(0, 3)", x.coin(0, 3), 3);
            Check.bad(x, "coin(0, 2)", x.coin(0, 2), 4);
            Check.bad(x, "come(3)", x.come(3), 1);
            Check.bad(x, "come(0)", x.come(0), 4);
            Check.bad(x, "line(0, 10)", x.line(0, 10), 1);
            Check.bad(x, "deafen(0, 10)", x.deafen(0, 10), 1);
            Check.bad(x, "rule(17)", x.rule(17), 1);
        });
    }

    @Edge(promise = 24, says = "With another STATUS than 0 a call gives NONE, or false, and changes nothing else")
    static void refusedCoinsChangeNothing() {
        changeNothing(poor(), poor(), x -> {
            Check.bad(x, "coin(0, 1)", x.coin(0, 1), 7);
            Check.bad(x, "coin(0, 2)", x.coin(0, 2), 5);
            Check.bad(x, "forget(0)", x.forget(0), 7);
            Check.bad(x, "open(0, 0)", x.open(0, 0), 7);
        });
    }

    @Edge(promise = 37, says = "With another STATUS than 0 a call gives NONE, or false, and changes nothing else")
    static void refusedMeaningsAndWaysChangeNothing() {
        changeNothing(full(), full(), x -> {
            Check.bad(x, "readings(5)", x.readings(5), 1);
            Check.bad(x, "first(3)", x.first(3), 6);
            Check.bad(x, "firstAt(3, 0)", x.firstAt(3, 0), 6);
            Check.bad(x, "means(0, 0, 21)", x.means(0, 0, 21), 1);
            Check.bad(x, "means(0, 2, 1)", x.means(0, 2, 1), 2);
            Check.bad(x, "means(0, 0, 3)", x.means(0, 0, 3), 3);
            Check.bad(x, "means(0, 0, 2)", x.means(0, 0, 2), 5);
            Check.bad(x, "unsaid(0, 1, 1)", x.unsaid(0, 1, 1), 5);
            Check.bad(x, "doubt(0)", x.doubt(0), 6);
            Check.bad(x, "doubtAt(0, 0)", x.doubtAt(0, 0), 6);
            Check.bad(x, "shared(0, 0)", x.shared(0, 0), 1);
            Check.bad(x, "far(0, 2)", x.far(0, 2), 6);
            Check.bad(x, "way(0, 2, 0)", x.way(0, 2, 0), 6);
            Check.bad(x, "part(3)", x.part(3), 1);
            Check.bad(x, "apart(0, 0)", x.apart(0, 0), 1);
            Check.bad(x, "apartSet(1, 4)", x.apartSet(1, 4), 6);
            Check.bad(x, "together(0, 5)", x.together(0, 5), 1);
            Check.bad(x, "culprits(0, 2)", x.culprits(0, 2), 5);
        });
    }

    @Edge(promise = 49, says = "With another STATUS than 0 a call gives NONE, or false, and changes nothing else")
    static void refusedGamesDaysAndMarksChangeNothing() {
        changeNothing(full(), full(), x -> {
            Check.bad(x, "game(0, 5)", x.game(0, 5), 1);
            Check.bad(x, "moveOf(0, 0)", x.moveOf(0, 0), 1);
            Check.bad(x, "gale(13, 0)", x.gale(13, 0), 1);
            Check.bad(x, "copyRooms(2)", x.copyRooms(2), 2);
            Check.bad(x, "copyRooms(0)", x.copyRooms(0), 3);
            Check.bad(x, "live(10000)", x.live(10000), 1);
            Check.bad(x, "lived(5)", x.lived(5), 1);
            Check.bad(x, "mean(9999, 2)", x.mean(9999, 2), 1);
            Check.bad(x, "mark()", x.mark(), 4);
        });
    }

    @Edge(promise = 53, says = "With another STATUS than 0 a call gives NONE, or false, and changes nothing else")
    static void refusedLivesAndUndosChangeNothing() {
        changeNothing(poor(), poor(), x -> {
            Check.bad(x, "live(0)", x.live(0), 6);
            Check.bad(x, "lived(0)", x.lived(0), 6);
            Check.bad(x, "mean(0, 1)", x.mean(0, 1), 6);
            Check.bad(x, "undo()", x.undo(), 6);
        });
    }

    @Edge(promise = 2, says = "9 a FAULT. 0 else.")
    static void whatIsAnsweredHasStatusNought() {
        DoorTongue x = full();
        x.told(9);
        Check.good(x, "told(5)", x.told(5) >= 0);
        x.told(9);
        Check.good(x, "read(0, 0)", x.read(0, 0), 9);
        x.told(9);
        Check.good(x, "write(0, 0, 1)", x.write(0, 0, 1));
        x.told(9);
        Check.good(x, "loss(0, 0)", x.loss(0, 0), 0);
        x.told(9);
        Check.good(x, "gale(0, 0)", x.gale(0, 0));
        x.told(9);
        Check.good(x, "rule(1)", x.rule(1));
        x.told(9);
        Check.good(x, "house(7)", x.house(7), 0);
        x.told(9);
        Check.good(x, "undo()", x.undo(), 2);
        x.told(9);
        Check.good(x, "mark()", x.mark(), 3);
        x.told(9);
        Check.good(x, "live(0)", x.live(0), 3);
        x.told(9);
        Check.good(x, "lived(4)", x.lived(4), 0);
        x.told(9);
        Check.good(x, "mean(0, 1)", x.mean(0, 1));
    }

    @Edge(promise = 2, says = "NONE = -1")
    static void none() {
        Check.due("NONE", DoorTongue.NONE, -1);
    }
}
