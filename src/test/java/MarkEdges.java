/** Edges of promises 56 and 57: MARKS. */
final class MarkEdges {
    private static final String PAIR = PromiseTests.PAIR;

    private MarkEdges() {
    }

    @Edge(promise = 56, says = "MARKS, at most 3")
    static void threeAndAFourth() {
        DoorTongue x = Check.with(PAIR);
        for (int marks = 1; marks <= 3; marks++) {
            Check.good(x, "mark()", x.mark(), marks);
        }
        Check.bad(x, "mark(): a fourth", x.mark(), 4);
        Check.bad(x, "mark(): a fourth", x.mark(), 4);
        for (int marks = 2; marks >= 0; marks--) {
            Check.good(x, "undo()", x.undo(), marks);
        }
        Check.good(x, "mark()", x.mark(), 1);
    }

    @Edge(promise = 56, says = "gives NONE, or false, and changes nothing else")
    static void aFourthMarksNothing() {
        DoorTongue x = new DoorTongue();
        for (int odds = 1; odds <= 4; odds++) {
            x.rule(odds);
            x.mark();
        }
        x.rule(9);
        for (int odds = 3; odds >= 1; odds--) {
            Check.good(x, "undo()", x.undo(), odds - 1);
            Check.good(x, "told(4)", x.told(4), odds);
        }
    }

    @Edge(promise = 57, says = "All is taken back to the latest MARK: how many there are left (6)")
    static void withoutAMark() {
        DoorTongue x = Check.with(PAIR, "any;");
        x.rule(7);
        Check.bad(x, "undo()", x.undo(), 6);
        Check.good(x, "told(4) stays", x.told(4), 7);
        x.mark();
        x.undo();
        x.rule(8);
        Check.bad(x, "undo(): it is gone", x.undo(), 6);
        Check.good(x, "told(4) stays", x.told(4), 8);
        Check.good(x, "live(0): the DAYS stay", x.live(0), 1);
    }

    @Edge(promise = 57, says = "all is taken back to the latest MARK, which is gone then")
    static void eachMarkOnce() {
        DoorTongue x = new DoorTongue();
        x.rule(1);
        x.mark();
        x.rule(2);
        x.mark();
        x.rule(3);
        x.undo();
        Check.good(x, "told(4)", x.told(4), 2);
        x.rule(5);
        x.undo();
        Check.good(x, "told(4)", x.told(4), 1);
        Check.bad(x, "undo()", x.undo(), 6);
    }

    @Edge(promise = 57, says = "All is taken back to the latest MARK")
    static void whatIsDoneBehindAMarkStaysOutOfIt() {
        DoorTongue x = Check.with(PAIR + "word w says ajar;");
        x.close(0, 0, 3);
        x.mark();
        String ahead = Check.all(x);
        x.go(1, 0);
        x.forget(1);
        x.close(0, 0, 2);
        x.come(1);
        x.line(0, 9);
        x.deafen(0, 9);
        x.teach(1, 0, true);
        Check.fill(x, 0, 0);
        x.coin(0, 1);
        x.rule(16);
        Check.good(x, "undo()", x.undo(), 0);
        Check.same("undo()", Check.all(x), ahead);
        Check.heardRow(x, 1, 3);
        Check.good(x, "told(6)", x.told(6), 1);
    }

    @Edge(promise = 57, says = "the HOUSE with all that became of it, the DAYS are kept as they are")
    static void anotherHouseAndOtherDays() {
        DoorTongue x = Check.with("odds 3;" + PAIR + "word w says ajar;", "go q 0;");
        x.close(0, 0, 3);
        x.mark();
        Check.house(x, "odds 5;room z;room y;room u;door u y open;door z u;person o in u;person n in u deaf 3;"
            + "person s in y;word v says slam slam;word m says shut;");
        Check.days(x, "any;any;close o 0 slam;forget s;");
        x.live(4);
        String second = Check.all(x);
        x.mark();
        for (int i = 0; i < 2; i++) {
            Check.house(x, "room q;room a;door a q baize 7;word o says latch latch latch;person y in a deaf 9;");
        }
        Check.good(x, "undo()", x.undo(), 1);
        Check.same("undo()", Check.all(x), second);
        Check.good(x, "live(4) of its DAYS", x.live(4), 4);
        Check.good(x, "days() by its NAMES", Check.days(x, "when in o z;forget s;end;when in n u;end;"), 3);
        Check.bad(x, "days() by the NAMES taken back", Check.days(x, "forget y;"), 9);
        Check.good(x, "undo()", x.undo(), 0);
        Check.toldIs(x, 2, 1, 1, 2, 3, 1, 1);
        Check.heardRow(x, 1, 3);
        Check.good(x, "live(0) of the DAYS", x.live(0), 1);
        Check.good(x, "person(1, 0)", x.person(1, 0), 0);
        Check.good(x, "days() by the old NAMES", Check.days(x, "when in p a;forget q;end;"), 2);
        Check.bad(x, "days() by the new ones", Check.days(x, "forget o;"), 9);
    }

    /** As many of all as there can be; the NAMES end in that letter. */
    private static String full(char last) {
        String house = "odds 11;room aZ;room bZ;room cZ;room dZ;room eZ;room fZ;room gZ;"
            + "door aZ bZ open;door bZ aZ baize 1;door aZ cZ baize 2 open;door cZ dZ baize 3;door dZ eZ open;"
            + "door eZ fZ baize 5;door fZ gZ baize 6 open;door gZ aZ baize 7;door gZ bZ baize 8;door gZ fZ baize 9 open;"
            + "word hZ says slam slam slam slam;word iZ says shut shut shut shut;word jZ says latch ajar latch ajar;"
            + "word kZ says latch;word lZ says ajar ajar;word mZ says slam shut latch ajar;word nZ says ajar slam;"
            + "person oZ in gZ deaf 5 knows nZ;person pZ in bZ knows hZ iZ jZ kZ lZ mZ nZ;person qZ in aZ deaf 1;"
            + "person rZ in fZ deaf 9;person sZ in aZ deaf 2 knows kZ;";
        return house.replace('Z', last);
    }

    private static DoorTongue lived(String house) {
        DoorTongue x = Check.with(house);
        for (int i = 0; i < 9; i++) {
            x.close(2, 0, 3);
            x.close(1, 0, i % 2 == 0 ? 2 : 0);
            x.open(2, 0);
        }
        return x;
    }

    /** With other DOORS and WORDS. */
    private static String other() {
        return full('y').replace("person sy in ay", "person sy in gy").replace("open;door", ";door")
            .replace("door gy", "door cy").replace("latch", "?").replace("ajar", "latch").replace("?", "ajar");
    }

    @Edge(promise = 57, says = "the HOUSE with all that became of it")
    static void aFullHouseTakenBack() {
        DoorTongue x = lived(full('x'));
        x.mark();
        for (int i = 0; i < 2; i++) {
            Check.good(x, "house()", Check.house(x, other()), 5);
        }
        Check.good(x, "undo()", x.undo(), 0);
        Check.same("undo()", Check.houseOf(x), Check.houseOf(lived(full('x'))));
    }

    @Edge(promise = 57, says = "the HOUSE with all that became of it")
    static void allNamesTakenBack() {
        DoorTongue x = Check.with(full('x'));
        x.mark();
        Check.house(x, other());
        x.mark();
        Check.house(x, PAIR);
        Check.good(x, "undo()", x.undo(), 1);
        Check.good(x, "days() by the second NAMES", Check.days(x, "when in sy gy;end;when in oy ey;end;"), 2);
        Check.good(x, "undo()", x.undo(), 0);
        Check.good(x, "days() by all NAMES", Check.days(x, "when in ox ax;end;when in px bx;end;when in qx cx;end;"
            + "when in rx dx;end;when in sx ex;end;when in ox fx;end;when in px gx;end;"), 7);
        Check.bad(x, "days() by the second NAMES", Check.days(x, "when in ox gy;end;"), 9);
        Check.due("fault(0)", x.fault(0), 3);
    }

    @Edge(promise = 57, says = "the DAYS are kept as they are")
    static void daysOfEachKindTakenBack() {
        DoorTongue x = Check.with(PAIR, "when heard q = 0;loop 2;close p 0 ajar;end;end;when in q b;go q 0;end;"
            + "when open 0;go p 0;end;when heard q > 1;forget q;end;");
        x.mark();
        for (int i = 0; i < 2; i++) {
            Check.days(x, "loop 9;when in p a;stop;any;any;forget q;forget q;end;end;loop 3;any;any;end;stop;");
            Check.days(x, "when heard p > 8;loop 9;close q 0 slam;end;end;when heard q < 8;open q 0;end;"
                + "when in p a;any;end;when heard q < 1;any;end;");
        }
        Check.good(x, "undo()", x.undo(), 0);
        Check.good(x, "live(0)", x.live(0), 10);
        Check.livedIs(x, 0, 2, 2, 2, 0);
        Check.good(x, "person(0, 0)", x.person(0, 0), 1);
        Check.good(x, "person(1, 0)", x.person(1, 0), 0);
        Check.heardRow(x, 1);
    }

    @Edge(promise = 57, says = "the DAYS are kept as they are")
    static void daysThatWereNot() {
        DoorTongue x = Check.with(PAIR);
        x.mark();
        Check.good(x, "days()", Check.days(x, "any;"), 1);
        x.undo();
        Check.bad(x, "live(0): there were none", x.live(0), 6);
        Check.bad(x, "mean(0, 1)", x.mean(0, 1), 6);
    }

    @Edge(promise = 57, says = "MARKS, at most 3: the HOUSE with all that became of it, the DAYS are kept as they are")
    static void whatAMarkDoesNotKeep() {
        DoorTongue x = Check.with(PAIR, "go p 0;");
        Check.fill(x, 0, 1, 2);
        x.gale(1, 1);
        x.mark();
        Check.fill(x, 0, 7);
        x.gale(2, 1);
        x.live(0);
        Check.feed(x, "odds 4;");
        Check.good(x, "undo()", x.undo(), 0);
        Check.good(x, "read(0, 0)", x.read(0, 0), 7);
        Check.bad(x, "read(0, 1)", x.read(0, 1), 3);
        Check.fraction(x, "gale(2, 1)", 7, 16);
        Check.good(x, "lived(3)", x.lived(3), 1);
        Check.good(x, "person(0, 0)", x.person(0, 0), 0);
        Check.good(x, "house(7) of the tape", x.house(7), 0);
    }

    @Edge(promise = 57, says = "All is taken back to the latest MARK")
    static void theNewObject() {
        DoorTongue x = new DoorTongue();
        Check.good(x, "mark()", x.mark(), 1);
        Check.house(x, PromiseTests.PLAIN);
        Check.days(x, "any;");
        x.close(0, 0, 0);
        Check.good(x, "undo()", x.undo(), 0);
        Check.toldIs(x, 0, 0, 0, 0, 4, 0, 0);
        Check.bad(x, "live(0)", x.live(0), 6);
        Check.bad(x, "come(0)", x.come(0), 1);
    }
}
