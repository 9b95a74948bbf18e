/** Edges of promises 42 to 48: ways. */
final class WayEdges {
    private static final int BIG = Integer.MAX_VALUE;
    private static final int LOW = Integer.MIN_VALUE;
    /** All seven ROOMS in a row. */
    private static final String ROW = "room a;room b;room c;room d;room e;room f;room g;door f g open;door e f open;"
        + "door d e open;door c d open;door b c open;door a b open;person p in a;person q in g;person r in a;";

    private WayEdges() {
    }

    @Edge(promise = 42, says = "FAR is a ROOM from another one by the fewest DOORS that are OPEN.")
    static void farToItselfAndToTheLast() {
        DoorTongue x = Check.with(ROW);
        for (int room = 0; room < 7; room++) {
            Check.good(x, "far(0, " + room + ")", x.far(0, room), room);
            Check.good(x, "far(6, " + room + ")", x.far(6, room), 6 - room);
            Check.good(x, "far() to itself", x.far(room, room), 0);
        }
    }

    @Edge(promise = 42, says = "by the fewest DOORS that are OPEN")
    static void farByOpenDoorsAlone() {
        DoorTongue x = Check.with("room a;room b;room c;door a c;door a b open;door b c open;person p in a;");
        Check.good(x, "far(0, 2)", x.far(0, 2), 2);
        x.open(0, 0);
        Check.good(x, "far(0, 2)", x.far(0, 2), 1);
    }

    @Edge(promise = 42, says = "FAR (1; 6: there is no way)")
    static void farWithoutAWay() {
        DoorTongue x = Check.with("room a;room b;room c;door a b;door b c open;");
        Check.bad(x, "far(0, 1)", x.far(0, 1), 6);
        Check.bad(x, "far(2, 0)", x.far(2, 0), 6);
        Check.bad(x, "way(0, 1, 0)", x.way(0, 1, 0), 6);
        Check.good(x, "far(0, 0)", x.far(0, 0), 0);
        for (int no : new int[] {-1, 3, 7, BIG, LOW}) {
            Check.bad(x, "far(" + no + ", 0)", x.far(no, 0), 1);
            Check.bad(x, "far(0, " + no + ")", x.far(0, no), 1);
            Check.bad(x, "far(" + no + ", " + no + ")", x.far(no, no), 1);
        }
    }

    @Edge(promise = 43, says = "the k-th ROOM, from 0 on (both ends are on it) (1: k below 0, too; 6: no way, no such place)")
    static void wayFromEndToEnd() {
        DoorTongue x = Check.with(ROW);
        for (int k = 0; k < 7; k++) {
            Check.good(x, "way(0, 6, " + k + ")", x.way(0, 6, k), k);
            Check.good(x, "way(6, 0, " + k + ")", x.way(6, 0, k), 6 - k);
        }
        for (int k : new int[] {7, 8, BIG}) {
            Check.bad(x, "way(0, 6, " + k + ")", x.way(0, 6, k), 6);
        }
        Check.bad(x, "way(0, 6, -1)", x.way(0, 6, -1), 1);
        Check.bad(x, "way(0, 6, LOW)", x.way(0, 6, LOW), 1);
    }

    @Edge(promise = 43, says = "both ends are on it")
    static void wayToItself() {
        DoorTongue x = Check.with("room a;room b;");
        for (int room = 0; room < 2; room++) {
            Check.good(x, "way() to itself", x.way(room, room, 0), room);
            Check.bad(x, "way() to itself", x.way(room, room, 1), 6);
            Check.bad(x, "way() to itself", x.way(room, room, -1), 1);
        }
        Check.bad(x, "way(0, 1, 0)", x.way(0, 1, 0), 6);
        Check.bad(x, "way(0, 1, -1) without a way", x.way(0, 1, -1), 1);
        for (int no : new int[] {-1, 2, BIG, LOW}) {
            Check.bad(x, "way(" + no + ", 0, 0)", x.way(no, 0, 0), 1);
            Check.bad(x, "way(0, " + no + ", 0)", x.way(0, no, 0), 1);
        }
    }

    @Edge(promise = 43, says = "of several the first by ROOMS, one by one")
    static void wayOfSeveral() {
        DoorTongue x = Check.with("room a;room b;room c;room d;room e;room f;door a c open;door a b open;door c d open;"
            + "door b e open;door d f open;door e f open;");
        int[] there = {0, 1, 4, 5};
        int[] back = {5, 3, 2, 0};
        for (int k = 0; k < 4; k++) {
            Check.good(x, "way(0, 5, " + k + ")", x.way(0, 5, k), there[k]);
            Check.good(x, "way(5, 0, " + k + ")", x.way(5, 0, k), back[k]);
        }
    }

    @Edge(promise = 43, says = "WAY: the ROOMS on it")
    static void wayBesideRoomsThatAreAsFar() {
        DoorTongue x = Check.with("room a;room b;room c;room d;door a b open;door a d open;door b d open;door c d open;");
        Check.good(x, "way(1, 2, 0)", x.way(1, 2, 0), 1);
        Check.good(x, "way(1, 2, 1)", x.way(1, 2, 1), 3);
        Check.good(x, "way(1, 2, 2)", x.way(1, 2, 2), 2);
        Check.good(x, "way(1, 3, 0)", x.way(1, 3, 0), 1);
        Check.good(x, "way(1, 3, 1)", x.way(1, 3, 1), 3);
    }

    @Edge(promise = 44, says = "The set of ROOMS to which one comes from one by OPEN DOORS (1 for ROOM 0 ..)")
    static void partOfOneAndOfAll() {
        DoorTongue x = Check.with(ROW);
        for (int room = 0; room < 7; room++) {
            Check.good(x, "part(" + room + ")", x.part(room), 127);
        }
        x.close(0, 5, 1);
        Check.good(x, "part(0) of itself alone", x.part(0), 1);
        Check.good(x, "part(6)", x.part(6), 126);
        for (int no : new int[] {-1, 7, BIG, LOW}) {
            Check.bad(x, "part(" + no + ")", x.part(no), 1);
        }
    }

    @Edge(promise = 45, says = "APART: how many DOORS (1; 6: they are in one ROOM)")
    static void apartInOneRoom() {
        DoorTongue x = Check.with(ROW);
        Check.bad(x, "apart(0, 2)", x.apart(0, 2), 6);
        Check.bad(x, "apartSet(0, 2)", x.apartSet(0, 2), 6);
        x.go(2, 5);
        Check.good(x, "apart(0, 2)", x.apart(0, 2), 1);
        Check.good(x, "apartSet(0, 2)", x.apartSet(0, 2), 32);
    }

    @Edge(promise = 45, says = "the fewest OPEN DOORS to be shut so that one can't come")
    static void apartAlready() {
        DoorTongue x = Check.with(ROW);
        x.close(0, 5, 1);
        Check.good(x, "apart(0, 1)", x.apart(0, 1), 0);
        Check.good(x, "apartSet(0, 1)", x.apartSet(0, 1), 0);
        x = Check.with("room a;room b;person p in a;person q in b;");
        Check.good(x, "apart(0, 1) without DOORS", x.apart(0, 1), 0);
        Check.good(x, "apartSet(0, 1) without DOORS", x.apartSet(0, 1), 0);
    }

    @Edge(promise = 45, says = "the fewest OPEN DOORS to be shut")
    static void apartByAllTen() {
        DoorTongue x = Check.with("room a;room b;person p in a;person q in b;" + "door a b open;".repeat(10));
        Check.good(x, "apart(0, 1)", x.apart(0, 1), 10);
        Check.good(x, "apartSet(0, 1)", x.apartSet(0, 1), 1023);
        x.close(0, 9, 1);
        Check.good(x, "apart(0, 1)", x.apart(0, 1), 9);
        Check.good(x, "apartSet(0, 1)", x.apartSet(0, 1), 511);
    }

    @Edge(promise = 45, says = "one and himself where two must be")
    static void apartFromHimself() {
        DoorTongue x = Check.with(ROW);
        for (int person = 0; person < 3; person++) {
            Check.bad(x, "apart() from himself", x.apart(person, person), 1);
            Check.bad(x, "apartSet() from himself", x.apartSet(person, person), 1);
            Check.bad(x, "together() with himself", x.together(person, person), 1);
        }
        for (int no : new int[] {-1, 3, 5, BIG, LOW}) {
            Check.bad(x, "apart(" + no + ", 0)", x.apart(no, 0), 1);
            Check.bad(x, "apart(0, " + no + ")", x.apart(0, no), 1);
            Check.bad(x, "apartSet(" + no + ", 0)", x.apartSet(no, 0), 1);
            Check.bad(x, "apartSet(0, " + no + ")", x.apartSet(0, no), 1);
            Check.bad(x, "together(" + no + ", 0)", x.together(no, 0), 1);
            Check.bad(x, "together(0, " + no + ")", x.together(0, no), 1);
        }
    }

    @Edge(promise = 46, says = "of several sets the least as a number (1 for DOOR 0 ..)")
    static void apartOfSeveralSets() {
        DoorTongue x = Check.with(ROW);
        Check.good(x, "apart(0, 1): each of six does", x.apart(0, 1), 1);
        Check.good(x, "apartSet(0, 1)", x.apartSet(0, 1), 1);
        Check.good(x, "apartSet(1, 0)", x.apartSet(1, 0), 1);
        x.go(1, 0);
        Check.good(x, "apartSet(0, 1): DOOR 0 is behind him", x.apartSet(0, 1), 2);
    }

    @Edge(promise = 46, says = "of several sets the least as a number (1 for DOOR 0 ..)")
    static void apartByFewerOfHigherNumbers() {
        DoorTongue x = Check.with("room a;room b;room c;door a b open;door a b open;door a b open;door b c open;"
            + "person p in a;person q in c;");
        Check.good(x, "apart(0, 1)", x.apart(0, 1), 1);
        Check.good(x, "apartSet(0, 1): 8 alone, not 7", x.apartSet(0, 1), 8);
        Check.good(x, "told(5) is as it was", x.told(5), 15);
    }

    @Edge(promise = 47, says = "TOGETHER: how many DOORS (1; 6: by none)")
    static void togetherByNoneAndByAll() {
        DoorTongue x = Check.with(ROW.replace(" open", "") + "door a g;");
        Check.good(x, "together(0, 2): in one ROOM", x.together(0, 2), 0);
        Check.good(x, "together(0, 1)", x.together(0, 1), 1);
        x = Check.with(ROW.replace(" open", ""));
        for (int left = 6; left > 0; left--) {
            Check.good(x, "together(0, 1)", x.together(0, 1), left);
            Check.good(x, "together(1, 0)", x.together(1, 0), left);
            x.open(1, 6 - left);
            x.go(1, 6 - left);
        }
        Check.good(x, "together(0, 1): they can already", x.together(0, 1), 0);
    }

    @Edge(promise = 47, says = "the fewest shut DOORS to be OPENED so that one can")
    static void togetherByOpenDoorsFirst() {
        DoorTongue x = Check.with("room a;room b;room c;room d;door a d baize 9;door a b open;door b c;door c d;"
            + "person p in a;person q in d;");
        Check.good(x, "together(0, 1)", x.together(0, 1), 1);
        x = Check.with("room a;room b;room c;room d;room e;door a b open;door b c;door c d open;door d e;door a c;"
            + "person p in a;person q in e;");
        Check.good(x, "together(0, 1)", x.together(0, 1), 2);
        Check.good(x, "told(5) is as it was", x.told(5), 5);
    }

    @Edge(promise = 47, says = "the fewest shut DOORS to be OPENED so that one can")
    static void togetherWhereOneCanAlready() {
        DoorTongue x = Check.with("room a;room b;room c;door a c;door a b open;door b c open;person p in a;person q in c;"
            + "person r in b;");
        for (int other = 1; other <= 2; other++) {
            Check.good(x, "together(0, " + other + ")", x.together(0, other), 0);
            Check.good(x, "together(" + other + ", 0)", x.together(other, 0), 0);
        }
        Check.good(x, "close(1, 2, 1)", x.close(1, 2, 1), 5);
        Check.good(x, "together(0, 1)", x.together(0, 1), 1);
    }

    @Edge(promise = 47, says = "the fewest shut DOORS to be OPENED so that one can")
    static void togetherByTheLastOfTen() {
        DoorTongue x = Check.with("room a;room b;room c;person p in a;person q in c;" + "door a b;".repeat(9) + "door c b;");
        Check.good(x, "together(0, 1)", x.together(0, 1), 2);
        Check.good(x, "together(1, 0)", x.together(1, 0), 2);
    }

    @Edge(promise = 47, says = "TOGETHER: how many DOORS (1; 6: by none)")
    static void togetherWithoutDoors() {
        DoorTongue x = Check.with("room a;room b;room c;door a b open;person p in a;person q in c;");
        Check.bad(x, "together(0, 1)", x.together(0, 1), 6);
        x = Check.with("room a;room b;person p in a;person q in b;");
        Check.bad(x, "together(0, 1) without DOORS", x.together(0, 1), 6);
    }

    @Edge(promise = 48, says = "the first n (0 to 6) numbers are DOORS that are OPEN, no two alike, in order")
    static void culpritsOfNoneToSix() {
        DoorTongue x = Check.with(ROW);
        Check.fill(x, 0, 0, 1, 2, 3, 4, 5);
        int[] want = {7, 7, 7, 7, 7, 7, 7};
        for (int n = 0; n <= 6; n++) {
            Check.good(x, "culprits(0, " + n + ")", x.culprits(0, n), want[n]);
        }
        Check.fill(x, 0, 0, 5, 1, 2, 3, 4);
        Check.good(x, "culprits(0, 1)", x.culprits(0, 1), 7);
        Check.good(x, "culprits(0, 2): all come from one side", x.culprits(0, 2), 7);
        Check.good(x, "culprits(0, 6)", x.culprits(0, 6), 7);
        Check.fill(x, 0, 2, 1, 3);
        Check.good(x, "culprits(0, 2)", x.culprits(0, 2), 7);
        Check.good(x, "culprits(0, 3): he is at one side alone", x.culprits(0, 3), 0);
        for (int n : new int[] {-1, 7, BIG, LOW}) {
            Check.bad(x, "culprits(0, " + n + ")", x.culprits(0, n), 1);
        }
        Check.good(x, "told(5) is as it was", x.told(5), 63);
    }

    @Edge(promise = 48, says = "the first n (0 to 6) numbers are DOORS that are OPEN")
    static void culpritsOfNoDoorAtAll() {
        DoorTongue x = Check.with("room a;room b;person p in a;person q in b;");
        Check.fill(x, 0, 0);
        Check.good(x, "culprits(0, 0)", x.culprits(0, 0), 3);
        Check.bad(x, "culprits(0, 1)", x.culprits(0, 1), 5);
        x = new DoorTongue();
        x.tray(0, 0, 0);
        Check.good(x, "culprits(0, 0) without PEOPLE", x.culprits(0, 0), 0);
    }

    @Edge(promise = 48, says = "numbers are DOORS that are OPEN, no two alike, in order")
    static void culpritsOfMoreDoorsThanRooms() {
        DoorTongue x = Check.with("room a;room b;person p in a;" + "door a b open;".repeat(10));
        Check.fill(x, 3, 9, 8, 2, 5, 7, 0);
        Check.good(x, "culprits(3, 6)", x.culprits(3, 6), 1);
        Check.bad(x, "culprits(0, 6)", x.culprits(0, 6), 2);
    }

    @Edge(promise = 48, says = "(1; 2; 3; 5: a DOOR that is shut, one twice, too)")
    static void culpritsOfWhatIsShutAndTwice() {
        DoorTongue x = Check.with(ROW);
        x.close(0, 5, 1);
        Check.fill(x, 0, 0, 5, 1);
        Check.good(x, "culprits(0, 1)", x.culprits(0, 1), 2);
        Check.bad(x, "culprits(0, 2): it is shut", x.culprits(0, 2), 5);
        Check.bad(x, "culprits(0, 3): it is shut", x.culprits(0, 3), 5);
        Check.fill(x, 0, 0, 1, 0, 2, 2);
        Check.good(x, "culprits(0, 2)", x.culprits(0, 2), 2);
        Check.bad(x, "culprits(0, 3): one twice", x.culprits(0, 3), 5);
        Check.bad(x, "culprits(0, 4): one twice", x.culprits(0, 4), 5);
        for (int door = 0; door < 5; door++) {
            Check.fill(x, 0, door, door);
            Check.bad(x, "culprits(0, 2): one twice", x.culprits(0, 2), 5);
        }
    }

    @Edge(promise = 48, says = "5 a number in a TRAY that can't be")
    static void culpritsOfNoSuchDoor() {
        DoorTongue x = Check.with(ROW);
        x.tray(0, 3, 2);
        for (long no : new long[] {-1, 6, 10, 33, 63, 1L << 32, (1L << 32) + 1, -31, Long.MIN_VALUE, Long.MAX_VALUE}) {
            x.write(0, 1, no);
            Check.bad(x, "culprits(0, 2) of " + no, x.culprits(0, 2), 5);
            Check.good(x, "culprits(0, 1): it is not asked", x.culprits(0, 1), 7);
        }
    }

    @Edge(promise = 48, says = "CULPRITS by a TRAY")
    static void culpritsByEachTray() {
        DoorTongue x = Check.with(ROW);
        x.go(0, 5);
        x.close(0, 4, 1);
        int[] door = {0, 5, 3, 5};
        int[] want = {2, 5, 2, 5};
        for (int tray = 0; tray < 4; tray++) {
            Check.fill(x, tray, door[tray]);
        }
        for (int tray = 0; tray < 4; tray++) {
            Check.good(x, "culprits(" + tray + ", 1)", x.culprits(tray, 1), want[tray]);
        }
    }

    @Edge(promise = 48, says = "(1; 2; 3; 5: a DOOR that is shut, one twice, too)")
    static void culpritsRefusedInOrder() {
        DoorTongue x = Check.with(ROW);
        Check.bad(x, "culprits(-1, 0)", x.culprits(-1, 0), 1);
        Check.bad(x, "culprits(4, 0)", x.culprits(4, 0), 1);
        Check.bad(x, "culprits(0, 7) of a MISSING one", x.culprits(0, 7), 1);
        Check.bad(x, "culprits(0, 0) of a MISSING one", x.culprits(0, 0), 2);
        Check.fill(x, 0, 9);
        Check.bad(x, "culprits(0, 2)", x.culprits(0, 2), 3);
        Check.bad(x, "culprits(0, 1)", x.culprits(0, 1), 5);
    }

    @Edge(promise = 48, says = "from his ROOM on each time by DOORS that are OPEN still to a ROOM of that DOOR, which is shut then")
    static void culpritsWhoAreShutOff() {
        DoorTongue x = Check.with("room a;room b;room c;door a b open;door b c open;door a c;person p in a;person q in c;");
        Check.fill(x, 0, 0, 1);
        Check.good(x, "culprits(0, 2): each comes to b ahead of it", x.culprits(0, 2), 3);
        x.close(1, 1, 1);
        Check.good(x, "culprits(0, 1): q can't come there", x.culprits(0, 1), 1);
        x.open(0, 2);
        Check.good(x, "culprits(0, 1): by the other DOOR", x.culprits(0, 1), 3);
        Check.fill(x, 0, 2, 0);
        Check.good(x, "culprits(0, 2): each at the side of a", x.culprits(0, 2), 3);
    }
}
