/** Edges of promises 29 to 33: what is HEARD. */
final class HearingEdges {
    private static final int BIG = Integer.MAX_VALUE;
    private static final int LOW = Integer.MIN_VALUE;
    private static final int[] LOUD = {9, 6, 3, 1};

    private HearingEdges() {
    }

    @Edge(promise = 29, says = "of 1 for each OPEN DOOR, 2 and its BAIZE for each that is not, together (0: itself)")
    static void lossOfOneDoor() {
        for (int baize = 0; baize <= 9; baize++) {
            DoorTongue x = Check.with("room a;room b;person p in a;door a b baize " + baize + ";");
            Check.good(x, "loss(0, 1) by BAIZE " + baize, x.loss(0, 1), 2 + baize);
            Check.good(x, "loss(1, 0) by BAIZE " + baize, x.loss(1, 0), 2 + baize);
            x.open(0, 0);
            Check.good(x, "loss(0, 1) by an OPEN DOOR", x.loss(0, 1), 1);
        }
    }

    @Edge(promise = 29, says = "(0: itself)")
    static void lossToItself() {
        DoorTongue x = Check.with("room a;room b;room c;door a b open;");
        for (int room = 0; room < 3; room++) {
            Check.good(x, "loss() to itself", x.loss(room, room), 0);
        }
    }

    @Edge(promise = 29, says = "LOSS from a ROOM to another one: the least of all ways by DOORS")
    static void lossByTheLongerWay() {
        DoorTongue x = Check.with("room a;room b;room c;room d;door a d baize 1;door a b open;door b c open;door c d open;"
            + "person p in a;");
        Check.good(x, "loss(0, 3): both ways are as good", x.loss(0, 3), 3);
        x.line(0, 2);
        Check.good(x, "loss(0, 3): round", x.loss(0, 3), 3);
        x.line(0, 0);
        Check.good(x, "loss(0, 3): by the shut one", x.loss(0, 3), 2);
    }

    @Edge(promise = 29, says = "of 1 for each OPEN DOOR, 2 and its BAIZE for each that is not, together")
    static void lossByAllSevenRooms() {
        DoorTongue x = Check.with("room a;room b;room c;room d;room e;room f;room g;door f g baize 9;door e f baize 9;"
            + "door d e baize 9;door c d baize 9;door b c baize 9;door a b baize 9;");
        Check.good(x, "loss(0, 6)", x.loss(0, 6), 66);
        Check.good(x, "loss(6, 0)", x.loss(6, 0), 66);
        Check.good(x, "loss(2, 5)", x.loss(2, 5), 33);
    }

    @Edge(promise = 29, says = "LOSS (1; 6: there is no way)")
    static void lossWithoutAWay() {
        DoorTongue x = Check.with("room a;room b;room c;room d;door a b open;door c d open;");
        Check.bad(x, "loss(0, 2)", x.loss(0, 2), 6);
        Check.bad(x, "loss(3, 1)", x.loss(3, 1), 6);
        for (int no : new int[] {-1, 4, 6, 7, BIG, LOW}) {
            Check.bad(x, "loss(" + no + ", 0)", x.loss(no, 0), 1);
            Check.bad(x, "loss(0, " + no + ")", x.loss(0, no), 1);
            Check.bad(x, "loss(" + no + ", " + no + ")", x.loss(no, no), 1);
        }
    }

    @Edge(promise = 30, says = "HEARERS of a DOOR and a SOUND: the set of PEOPLE who would HEAR it, made by nobody.")
    static void hearersMadeByNobody() {
        DoorTongue x = Check.with("room a;room b;door a b open;person p in a;person q in b;person r in a deaf 9;");
        for (int sound = 0; sound < 4; sound++) {
            Check.good(x, "hearers(0, " + sound + ")", x.hearers(0, sound), 3);
        }
        Check.good(x, "told(6): it was not made", x.told(6), 0);
        Check.good(x, "told(5)", x.told(5), 1);
        Check.heardRow(x, 0);
        Check.heardRow(x, 1);
    }

    @Edge(promise = 30, says = "is more than DEAF")
    static void hearersJustLoudEnough() {
        for (int sound = 0; sound < 4; sound++) {
            for (int deaf = 0; deaf <= 9; deaf++) {
                DoorTongue x = Check.with("room a;room b;room c;door a b;door b c open;person p in a deaf " + deaf
                    + ";person q in c deaf " + deaf + ";");
                int want = (LOUD[sound] > deaf ? 1 : 0) + (LOUD[sound] - 1 > deaf ? 2 : 0);
                Check.good(x, "hearers(0, " + sound + ") by DEAF " + deaf, x.hearers(0, sound), want);
            }
        }
    }

    @Edge(promise = 30, says = "HEARERS of a DOOR and a SOUND")
    static void hearersOfAShutDoor() {
        DoorTongue x = Check.with("room a;room b;room c;door a b baize 9;door b c baize 6;person p in a;person q in b;"
            + "person r in c;");
        Check.good(x, "hearers(0, 0): its own BAIZE hushes nothing; 9 less 8", x.hearers(0, 0), 7);
        x.line(1, 7);
        Check.good(x, "hearers(0, 0): 9 less 9", x.hearers(0, 0), 3);
    }

    @Edge(promise = 30, says = "HEARERS of a DOOR and a SOUND")
    static void hearersWithoutAWay() {
        DoorTongue x = Check.with("room a;room b;room c;door a b open;person p in c;");
        Check.good(x, "hearers(0, 0): no way to c", x.hearers(0, 0), 0);
        Check.good(x, "hears(0, 0)", x.hears(0, 0), 0);
        x = Check.with("room a;room b;door a b open;");
        Check.good(x, "hearers(0, 0) of no PEOPLE", x.hearers(0, 0), 0);
    }

    @Edge(promise = 30, says = "1 a number that can't be; no such TRAY, ROOM, DOOR, WORD, SOUND, PERSON")
    static void hearersOfWhatIsNot() {
        DoorTongue x = Check.with(PromiseTests.PAIR);
        for (int no : new int[] {-1, 1, 10, BIG, LOW}) {
            Check.bad(x, "hearers(" + no + ", 0)", x.hearers(no, 0), 1);
        }
        for (int no : new int[] {-1, 4, BIG, LOW}) {
            Check.bad(x, "hearers(0, " + no + ")", x.hearers(0, no), 1);
        }
    }

    @Edge(promise = 31, says = "The set of DOORS at which a SOUND would be HEARD by a PERSON (1 for DOOR 0 ..)")
    static void hearsAtAllTen() {
        DoorTongue x = Check.with("room a;room b;room c;room d;" + "door a b;".repeat(9) + "door b c;person p in a;"
            + "person q in c deaf 6;person r in d;");
        Check.good(x, "hears(0, 0)", x.hears(0, 0), 1023);
        Check.good(x, "hears(0, 3): at his own ROOM's alone", x.hears(0, 3), 511);
        Check.good(x, "hears(1, 0): 9 less 2 is more than 6", x.hears(1, 0), 1023);
        x.deafen(1, 7);
        Check.good(x, "hears(1, 0): and not more than 7", x.hears(1, 0), 512);
        Check.good(x, "hears(2, 0)", x.hears(2, 0), 0);
        Check.good(x, "told(6)", x.told(6), 0);
    }

    @Edge(promise = 31, says = "The set of DOORS at which a SOUND would be HEARD by a PERSON (1 for DOOR 0 ..) (1).")
    static void hearsOfWhatIsNot() {
        DoorTongue x = Check.with(PromiseTests.PAIR);
        for (int no : new int[] {-1, 2, 5, BIG, LOW}) {
            Check.bad(x, "hears(" + no + ", 0)", x.hears(no, 0), 1);
        }
        for (int no : new int[] {-1, 4, BIG, LOW}) {
            Check.bad(x, "hears(0, " + no + ")", x.hears(0, no), 1);
        }
        x = Check.with("room a;person p in a;");
        Check.good(x, "hears(0, 0) without DOORS", x.hears(0, 0), 0);
    }

    @Edge(promise = 32, says = "how much more BAIZE (0 to 9, on each DOOR but that one, 9 at most each)")
    static void hushByEachAmount() {
        for (int deaf = 0; deaf <= 9; deaf++) {
            DoorTongue x = Check.with("room a;room b;room c;door a b open;door b c;person p in c deaf " + deaf + ";");
            Check.good(x, "hush(0, 0, 0): 9 less 2 by DEAF " + deaf, x.hush(0, 0, 0), Math.max(0, 7 - deaf));
            Check.good(x, "hush(0, 1, 0): 6 less 2 by DEAF " + deaf, x.hush(0, 1, 0), Math.max(0, 4 - deaf));
            Check.good(x, "door(1, 2) is as it was", x.door(1, 2), 0);
        }
    }

    @Edge(promise = 32, says = "by the fewest")
    static void hushOfWhatIsNotHeard() {
        DoorTongue x = Check.with("room a;room b;room c;door a b open;person p in c;person q in a deaf 9;");
        Check.good(x, "hush(0, 0, 0): no way at all", x.hush(0, 0, 0), 0);
        Check.good(x, "hush(0, 0, 1): all deaf", x.hush(0, 0, 1), 0);
        Check.good(x, "hush(0, 3, 1)", x.hush(0, 3, 1), 0);
    }

    @Edge(promise = 32, says = "on each DOOR but that one")
    static void hushAtHisOwnDoor() {
        DoorTongue x = Check.with("room a;room b;room c;door a b;door b c;person p in a;person q in c;");
        for (int sound = 0; sound < 4; sound++) {
            Check.bad(x, "hush(0, " + sound + ", 0)", x.hush(0, sound, 0), 6);
            Check.bad(x, "hush(1, " + sound + ", 1)", x.hush(1, sound, 1), 6);
        }
        Check.good(x, "hush(0, 0, 1)", x.hush(0, 0, 1), 7);
        Check.good(x, "hush(0, 2, 1)", x.hush(0, 2, 1), 1);
        Check.good(x, "hush(0, 3, 1)", x.hush(0, 3, 1), 0);
    }

    @Edge(promise = 32, says = "on each DOOR but that one, 9 at most each")
    static void hushByMoreThanOneDoor() {
        DoorTongue x = Check.with("room a;room b;room c;room d;door a b open;door b c;door c d;door b d baize 3;"
            + "person p in d;person q in c;");
        Check.good(x, "hush(0, 0, 0): 9 less 4, by two of which each hushes more, and by one", x.hush(0, 0, 0), 4);
        x.line(3, 9);
        Check.good(x, "hush(0, 0, 0): by two alone", x.hush(0, 0, 0), 3);
        Check.good(x, "hush(0, 0, 1)", x.hush(0, 0, 1), 7);
    }

    @Edge(promise = 32, says = "HUSH (1; 6: not by 9)")
    static void hushByOpenDoors() {
        DoorTongue x = Check.with("room a;room b;room c;door a b open;door b c open;person p in c;person q in c deaf 7;"
            + "person r in c deaf 8;");
        Check.bad(x, "hush(0, 0, 0): BAIZE on OPEN DOORS hushes nothing", x.hush(0, 0, 0), 6);
        Check.bad(x, "hush(0, 0, 1)", x.hush(0, 0, 1), 6);
        Check.good(x, "hush(0, 0, 2): 8 is not more than 8", x.hush(0, 0, 2), 0);
        Check.bad(x, "hush(0, 2, 0)", x.hush(0, 2, 0), 6);
        Check.good(x, "hush(0, 3, 0)", x.hush(0, 3, 0), 0);
    }

    @Edge(promise = 32, says = "1 a number that can't be; no such TRAY, ROOM, DOOR, WORD, SOUND, PERSON")
    static void hushOfWhatIsNot() {
        DoorTongue x = Check.with(PromiseTests.PAIR);
        for (int no : new int[] {-1, 4, BIG, LOW}) {
            Check.bad(x, "hush(" + no + ", 0, 0)", x.hush(no, 0, 0), 1);
            Check.bad(x, "hush(0, " + no + ", 0)", x.hush(0, no, 0), 1);
            Check.bad(x, "hush(0, 0, " + no + ")", x.hush(0, 0, no), 1);
        }
        Check.bad(x, "hush(1, 0, 0)", x.hush(1, 0, 0), 1);
        Check.bad(x, "hush(0, 0, 2)", x.hush(0, 0, 2), 1);
    }

    /** Two of three behind doors of their own: p in the middle, q and r at the ends. */
    private static final String ENDS = "room m;room l;room n;door m n open;door m l open;door l m open;person p in m;"
        + "person q in l;person r in n;";

    @Edge(promise = 33, says = "the first DOOR that is OPEN, to a ROOM of which he can come by OPEN DOORS, by which it is so")
    static void secretTheFirstOfTwo() {
        DoorTongue x = Check.with(ENDS);
        Check.good(x, "secret(0, 1, 2, 3)", x.secret(0, 1, 2, 3), 1);
        x.close(0, 1, 1);
        Check.good(x, "secret(0, 1, 2, 3): the first is shut", x.secret(0, 1, 2, 3), 2);
        x.close(0, 2, 1);
        Check.bad(x, "secret(0, 1, 2, 3): both are shut", x.secret(0, 1, 2, 3), 6);
        Check.good(x, "secret(0, 2, 1, 3)", x.secret(0, 2, 1, 3), 0);
        Check.good(x, "told(5)", x.told(5), 1);
    }

    @Edge(promise = 33, says = "SECRET of a PERSON, one who is to HEAR and one who is not, and a SOUND")
    static void secretBothWouldHear() {
        DoorTongue x = Check.with(ENDS);
        Check.bad(x, "secret(0, 1, 2, 2)", x.secret(0, 1, 2, 2), 6);
        x.deafen(2, 2);
        Check.good(x, "secret(0, 1, 2, 2): 3 less 1 is not more than 2", x.secret(0, 1, 2, 2), 1);
        x.deafen(1, 3);
        Check.bad(x, "secret(0, 1, 2, 2): neither would", x.secret(0, 1, 2, 2), 6);
        Check.good(x, "secret(0, 2, 1, 2): by the first DOOR of his own ROOM", x.secret(0, 2, 1, 2), 0);
    }

    @Edge(promise = 33, says = "the first DOOR that is OPEN")
    static void secretByTheLastOfTen() {
        DoorTongue x = Check.with("room a;room b;room c;" + "door a b;".repeat(9) + "door c a open;person p in a;"
            + "person q in c;person r in b;");
        Check.good(x, "secret(0, 1, 2, 3)", x.secret(0, 1, 2, 3), 9);
    }

    @Edge(promise = 33, says = "one who is to HEAR and one who is not, and a SOUND")
    static void secretByBaizeBetween() {
        DoorTongue x = Check.with("room a;room b;room c;room d;door a b open;door b c baize 3;door a d baize 4;person p in a;"
            + "person q in c deaf 3;person r in d deaf 3;");
        Check.good(x, "secret(0, 1, 2, 0): 9 less 5 and less 6", x.secret(0, 1, 2, 0), 0);
        x.line(1, 4);
        Check.bad(x, "secret(0, 1, 2, 0): 9 less 6 to each", x.secret(0, 1, 2, 0), 6);
        x.line(2, 3);
        Check.good(x, "secret(0, 2, 1, 0)", x.secret(0, 2, 1, 0), 0);
        x.line(1, 3);
        Check.bad(x, "secret(0, 2, 1, 0): 9 less 5 to each", x.secret(0, 2, 1, 0), 6);
    }

    @Edge(promise = 33, says = "to a ROOM of which he can come by OPEN DOORS")
    static void secretWhereHeCanCome() {
        DoorTongue x = Check.with("room a;room b;room c;room d;room e;door d e open;door c d open;door b c;door a b open;"
            + "person p in a;person q in e;person r in b;");
        Check.bad(x, "secret(0, 1, 2, 3): a shut DOOR is between", x.secret(0, 1, 2, 3), 6);
        x.go(2, 3);
        x.go(2, 3);
        x.open(2, 2);
        Check.good(x, "secret(0, 1, 2, 3): it is OPEN now", x.secret(0, 1, 2, 3), 0);
        Check.good(x, "secret(2, 1, 0, 3)", x.secret(2, 1, 0, 3), 0);
    }

    @Edge(promise = 33, says = "(1: two of the three alike, too; 6: none)")
    static void secretOfTwoAlike() {
        DoorTongue x = Check.with(ENDS);
        for (int person = 0; person < 3; person++) {
            for (int to = 0; to < 3; to++) {
                for (int but = 0; but < 3; but++) {
                    if (person == to || person == but || to == but) {
                        Check.bad(x, "secret()", x.secret(person, to, but, 3), 1);
                    }
                }
            }
        }
        for (int no : new int[] {-1, 3, BIG, LOW}) {
            Check.bad(x, "secret(" + no + ", 1, 2, 3)", x.secret(no, 1, 2, 3), 1);
            Check.bad(x, "secret(0, " + no + ", 2, 3)", x.secret(0, no, 2, 3), 1);
            Check.bad(x, "secret(0, 1, " + no + ", 3)", x.secret(0, 1, no, 3), 1);
        }
        for (int no : new int[] {-1, 4, BIG, LOW}) {
            Check.bad(x, "secret(0, 1, 2, " + no + ")", x.secret(0, 1, 2, no), 1);
        }
    }

    @Edge(promise = 33, says = "(1: two of the three alike, too; 6: none)")
    static void secretWithoutDoors() {
        DoorTongue x = Check.with("room a;person p in a;person q in a;person r in a;");
        Check.bad(x, "secret(0, 1, 2, 0)", x.secret(0, 1, 2, 0), 6);
    }
}
