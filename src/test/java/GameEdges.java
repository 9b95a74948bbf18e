/** Edges of promises 49 to 52: games, odds. */
final class GameEdges {
    private static final int BIG = Integer.MAX_VALUE;
    private static final int LOW = Integer.MIN_VALUE;

    private GameEdges() {
    }

    @Edge(promise = 49, says = "GAME of a PERSON and n turns (0 to 4)")
    static void gameOfNoneToFourTurns() {
        DoorTongue x = Check.with("room a;room b;room c;door a b open;door b c open;person p in a;");
        int[] want = {3, 1, 3, 1, 3};
        for (int n = 0; n <= 4; n++) {
            Check.good(x, "game(0, " + n + ")", x.game(0, n), want[n]);
        }
        for (int n : new int[] {-1, 5, BIG, LOW}) {
            Check.bad(x, "game(0, " + n + ")", x.game(0, n), 1);
        }
        for (int no : new int[] {-1, 1, BIG, LOW}) {
            Check.bad(x, "game(" + no + ", 1)", x.game(no, 1), 1);
        }
        Check.good(x, "told(5) is as it was", x.told(5), 3);
    }

    @Edge(promise = 49, says = "to how many ROOMS one comes from the PERSON's by OPEN DOORS (his, too)")
    static void gameOfOneRoomAndOfSeven() {
        String rooms = "room a;room b;room c;room d;room e;room f;room g;person p in a;";
        DoorTongue x = Check.with(rooms);
        for (int n = 0; n <= 4; n++) {
            Check.good(x, "game(0, " + n + ") without DOORS", x.game(0, n), 1);
        }
        x = Check.with(rooms + "door a b open;door a c open;door a d open;door a e open;door a f open;door a g open;");
        int[] want = {7, 6, 7, 6, 7};
        for (int n = 0; n <= 4; n++) {
            Check.good(x, "game(0, " + n + ")", x.game(0, n), want[n]);
        }
        x = Check.with(rooms + "door a b;door a c;door a d;door a e;door a f;door a g;");
        int[] shut = {1, 1, 2, 1, 2};
        for (int n = 0; n <= 4; n++) {
            Check.good(x, "game(0, " + n + ") of what is shut", x.game(0, n), shut[n]);
        }
    }

    @Edge(promise = 49, says = "one shuts an OPEN DOOR (opens one that is not), or does nothing")
    static void gameWhereNothingIsBest() {
        DoorTongue x = Check.with("room a;room b;door a b;person p in a;");
        int[] want = {1, 1, 2, 1, 2};
        for (int n = 0; n <= 4; n++) {
            Check.good(x, "game(0, " + n + ")", x.game(0, n), want[n]);
        }
        for (int n = 1; n <= 4; n++) {
            Check.bad(x, "moveOf(0, " + n + "): nothing to shut", x.moveOf(0, n), 6);
        }
        x = Check.with("room a;room b;door a b open;person p in a;");
        int[] open = {2, 1, 2, 1, 2};
        for (int n = 0; n <= 4; n++) {
            Check.good(x, "game(0, " + n + ")", x.game(0, n), open[n]);
        }
    }

    @Edge(promise = 49, says = "by best play (the first wants few)")
    static void gameOfTenDoors() {
        DoorTongue x = Check.with("room a;room b;room c;room d;room e;" + "door a b open;".repeat(2)
            + "door b c open;".repeat(3) + "door c d open;door d e open;door a e;door c a;door b e;person p in a;");
        // d and e are cut off by one DOOR, which is opened again, or gone round.
        int[] want = {5, 3, 5, 3, 5};
        for (int n = 0; n <= 4; n++) {
            Check.good(x, "game(0, " + n + ")", x.game(0, n), want[n]);
        }
        Check.good(x, "told(5) is as it was", x.told(5), 127);
    }

    @Edge(promise = 49, says = "to how many ROOMS one comes from the PERSON's by OPEN DOORS")
    static void gameFromTheLastRoom() {
        DoorTongue x = Check.with("room a;room b;room c;room d;room e;room f;room g;door a b open;door b c open;"
            + "door c d open;door d e open;door f g open;person p in a;person q in g;person r in e;");
        int[][] want = {{5, 1, 5, 1, 5}, {2, 1, 2, 1, 2}, {5, 1, 5, 1, 5}};
        int[] move = {0, 4, 3};
        for (int person = 0; person < 3; person++) {
            for (int n = 0; n <= 4; n++) {
                Check.good(x, "game(" + person + ", " + n + ")", x.game(person, n), want[person][n]);
            }
            Check.good(x, "moveOf(" + person + ", 1)", x.moveOf(person, 1), move[person]);
        }
    }

    @Edge(promise = 49, says = "(opens one that is not)")
    static void gameOfWhatIsOpened() {
        DoorTongue x = Check.with("room a;room b;room c;door b c;door b a;person p in a;");
        int[] want = {1, 1, 2, 1, 2};
        for (int n = 0; n <= 4; n++) {
            Check.good(x, "game(0, " + n + ")", x.game(0, n), want[n]);
        }
    }

    @Edge(promise = 50, says = "the first's first DOOR")
    static void moveByTheLastOfTen() {
        DoorTongue x = Check.with("room a;room b;person p in a;" + "door a b;".repeat(9) + "door b a open;");
        for (int n = 1; n <= 4; n++) {
            Check.good(x, "moveOf(0, " + n + ")", x.moveOf(0, n), 9);
        }
    }

    @Edge(promise = 50, says = "MOVE (1: n 0, too; 6: nothing)")
    static void moveOfNoneToFourTurns() {
        DoorTongue x = Check.with("room a;room b;room c;door b c open;door a b open;person p in a;person q in c;");
        Check.bad(x, "moveOf(0, 0)", x.moveOf(0, 0), 1);
        Check.good(x, "moveOf(0, 1)", x.moveOf(0, 1), 1);
        Check.good(x, "moveOf(1, 1)", x.moveOf(1, 1), 0);
        Check.good(x, "moveOf(0, 2)", x.moveOf(0, 2), 0);
        Check.good(x, "moveOf(0, 3)", x.moveOf(0, 3), 0);
        Check.good(x, "moveOf(0, 4)", x.moveOf(0, 4), 0);
        for (int n : new int[] {-1, 5, BIG, LOW}) {
            Check.bad(x, "moveOf(0, " + n + ")", x.moveOf(0, n), 1);
        }
        for (int no : new int[] {-1, 2, BIG, LOW}) {
            Check.bad(x, "moveOf(" + no + ", 1)", x.moveOf(no, 1), 1);
        }
        Check.good(x, "told(5) is as it was", x.told(5), 3);
    }

    @Edge(promise = 50, says = "of all that are as good the first; nothing comes last")
    static void moveThatDoesNoHarm() {
        DoorTongue x = Check.with("room a;room b;room c;door b a;door b c open;door c b open;person p in a;");
        for (int n = 1; n <= 4; n++) {
            Check.good(x, "moveOf(0, " + n + "): as good as nothing, and ahead of it", x.moveOf(0, n), 1);
        }
    }

    @Edge(promise = 50, says = "MOVE: the first's first DOOR, of all that are as good the first")
    static void moveThatIsBetterComesFirst() {
        DoorTongue x = Check.with("room a;room b;room c;room d;door c d open;door b c open;door a b open;door a d;"
            + "person p in a;person q in d;");
        Check.good(x, "moveOf(0, 1): the third leaves one ROOM alone", x.moveOf(0, 1), 2);
        Check.good(x, "moveOf(1, 1)", x.moveOf(1, 1), 0);
        x = Check.with("room a;room b;room c;door a b open;door a b open;door b c open;person p in a;");
        Check.good(x, "moveOf(0, 1): the last alone does harm", x.moveOf(0, 1), 2);
    }

    @Edge(promise = 50, says = "MOVE (1: n 0, too; 6: nothing)")
    static void moveThatIsNone() {
        DoorTongue x = Check.with("room a;person p in a;");
        for (int n = 1; n <= 4; n++) {
            Check.bad(x, "moveOf(0, " + n + ") without DOORS", x.moveOf(0, n), 6);
        }
        Check.bad(x, "moveOf(0, 0) without DOORS", x.moveOf(0, 0), 1);
    }

    @Edge(promise = 51, says = "Each of n SOUNDS (0 to 12) is drowned by the wind by ODDS sixteenths")
    static void galeOfNoneAndOfTwelve() {
        DoorTongue x = new DoorTongue();
        Check.galeIs(x, 0, 0, 1, 1);
        Check.galeIs(x, 0, 1, 0, 1);
        Check.galeIs(x, 0, 12, 0, 1);
        Check.galeIs(x, 12, 0, 1, 1);
        Check.galeIs(x, 12, 12, 1, 1L << 24);
        Check.galeIs(x, 11, 12, 0, 1);
        Check.galeIs(x, 12, 1, (1L << 24) - 531441, 1L << 24);
    }

    @Edge(promise = 51, says = "the odds that k or more are")
    static void galeOfKOrMore() {
        DoorTongue x = new DoorTongue();
        x.rule(8);
        Check.galeIs(x, 2, 0, 1, 1);
        Check.galeIs(x, 2, 1, 3, 4);
        Check.galeIs(x, 2, 2, 1, 4);
        Check.galeIs(x, 2, 3, 0, 1);
        Check.galeIs(x, 12, 6, 1255, 2048);
        Check.galeIs(x, 12, 7, 793, 2048);
        Check.galeIs(x, 12, 11, 13, 4096);
        Check.galeIs(x, 12, 12, 1, 4096);
    }

    @Edge(promise = 51, says = "ODDS (0 to 16; 4 without)")
    static void galeByNoneAndBySixteen() {
        DoorTongue x = new DoorTongue();
        x.rule(0);
        Check.galeIs(x, 12, 0, 1, 1);
        Check.galeIs(x, 12, 1, 0, 1);
        Check.galeIs(x, 0, 0, 1, 1);
        x.rule(16);
        Check.galeIs(x, 12, 12, 1, 1);
        Check.galeIs(x, 12, 0, 1, 1);
        Check.galeIs(x, 11, 12, 0, 1);
        x.rule(15);
        Check.galeIs(x, 12, 12, 129746337890625L, 1L << 48);
        x.rule(1);
        Check.galeIs(x, 12, 12, 1, 1L << 48);
        Check.galeIs(x, 12, 1, (1L << 48) - 129746337890625L, 1L << 48);
    }

    @Edge(promise = 51, says = "The FRACTION is GALE (n, k 0 to 12) (1).")
    static void galeOfWhatCannotBe() {
        DoorTongue x = new DoorTongue();
        x.gale(1, 1);
        for (int no : new int[] {-1, 13, BIG, LOW}) {
            Check.bad(x, "gale(" + no + ", 0)", x.gale(no, 0), 1);
            Check.bad(x, "gale(0, " + no + ")", x.gale(0, no), 1);
        }
        Check.fraction(x, "gale(1, 1)", 1, 4);
    }

    @Edge(promise = 52, says = "ROOMS of all PEOPLE come to a TRAY, one by one: how many PEOPLE")
    static void copyRoomsOfNoneAndOfFive() {
        DoorTongue x = new DoorTongue();
        x.tray(3, 0, 0);
        Check.good(x, "copyRooms(3) of nobody", x.copyRooms(3), 0);
        x = Check.with("room a;room b;room c;room d;room e;room f;room g;person p in g;person q in a;person r in f;"
            + "person s in b;person t in g;");
        int[] want = {6, 0, 5, 1, 6, 77};
        for (int sort = 0; sort < 4; sort++) {
            x.tray(0, sort, 6);
            x.write(0, 5, 77);
            Check.good(x, "copyRooms(0)", x.copyRooms(0), 5);
            for (int i = 0; i < 6; i++) {
                Check.good(x, "read(0, " + i + ")", x.read(0, i), want[i]);
            }
        }
    }

    @Edge(promise = 52, says = "(1; 2; 3)")
    static void copyRoomsRefusedInOrder() {
        DoorTongue x = Check.with(PromiseTests.PAIR);
        for (int no : new int[] {-1, 4, BIG, LOW}) {
            Check.bad(x, "copyRooms(" + no + ")", x.copyRooms(no), 1);
        }
        Check.bad(x, "copyRooms(0)", x.copyRooms(0), 2);
        Check.fill(x, 0, 9);
        Check.bad(x, "copyRooms(0): too few", x.copyRooms(0), 3);
        Check.good(x, "read(0, 0) is as it was", x.read(0, 0), 9);
        Check.fill(x, 0, 9, 9);
        Check.good(x, "copyRooms(0): just so many", x.copyRooms(0), 2);
        Check.good(x, "read(0, 1)", x.read(0, 1), 1);
        x.come(0);
        Check.bad(x, "copyRooms(0): one more has come", x.copyRooms(0), 3);
    }
}
