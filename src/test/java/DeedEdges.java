/** Edges of promises 19 to 28: what is done. */
final class DeedEdges {
    private static final int BIG = Integer.MAX_VALUE;
    private static final int LOW = Integer.MIN_VALUE;
    private static final int[] LOUD = {9, 6, 3, 1};

    private DeedEdges() {
    }

    @Edge(promise = 19, says = "CLOSE: a PERSON in a ROOM of a DOOR that is OPEN makes a SOUND at it")
    static void closeFromEachRoomOfIt() {
        DoorTongue x = Check.with("room a;room b;room c;door a b open;door b a open;door b c open;person p in a;"
            + "person q in b;person r in c;");
        Check.good(x, "close(0, 0, 0)", x.close(0, 0, 0), 6);
        Check.good(x, "close(1, 1, 0)", x.close(1, 1, 0), 5);
        Check.bad(x, "close(0, 2, 0) from elsewhere", x.close(0, 2, 0), 7);
        Check.good(x, "told(5): it is OPEN still", x.told(5), 4);
        Check.good(x, "close(2, 2, 0)", x.close(2, 2, 0), 3);
        Check.good(x, "told(5)", x.told(5), 0);
    }

    @Edge(promise = 19, says = "it is shut then, but by an ajar, by which it stays OPEN")
    static void eachSoundAtADoor() {
        for (int sound = 0; sound < 4; sound++) {
            DoorTongue x = Check.with(PromiseTests.PAIR);
            Check.good(x, "close(0, 0, " + sound + ")", x.close(0, 0, sound), 2);
            Check.good(x, "door(0, 3) behind " + sound, x.door(0, 3), sound == 3 ? 1 : 0);
            Check.good(x, "heardAt(1, 0)", x.heardAt(1, 0), sound);
            Check.good(x, "told(6)", x.told(6), 1);
        }
    }

    @Edge(promise = 19, says = "is HEARD by each PERSON (but who made it)")
    static void whoMadeItDoesNotHearIt() {
        DoorTongue x = Check.with("room a;room b;door a b open;person p in a;person q in a;person r in b;person s in b;"
            + "person t in a;");
        for (int person = 0; person < 5; person++) {
            Check.good(x, "close(" + person + ", 0, 3)", x.close(person, 0, 3), 31 - (1 << person));
        }
        for (int person = 0; person < 5; person++) {
            Check.good(x, "person(" + person + ", 3)", x.person(person, 3), 4);
        }
    }

    @Edge(promise = 19, says = "LOUD is a slam 9, a shut 6, a latch 3, an ajar 1.")
    static void justLoudEnough() {
        for (int sound = 0; sound < 4; sound++) {
            for (int deaf = 0; deaf <= 9; deaf++) {
                DoorTongue x = Check.with("room a;room b;door a b open;person p in a;person q in b deaf " + deaf + ";");
                Check.good(x, "close(0, 0, " + sound + ") by DEAF " + deaf, x.close(0, 0, sound),
                    LOUD[sound] > deaf ? 2 : 0);
                Check.good(x, "person(1, 3)", x.person(1, 3), LOUD[sound] > deaf ? 1 : 0);
            }
        }
    }

    @Edge(promise = 19, says = "LOUD, less LOSS from that of its ROOMS from which it is less")
    static void lossAndDeafTogether() {
        for (int deaf = 0; deaf <= 9; deaf++) {
            DoorTongue x = Check.with("room a;room b;room c;room d;door a b open;door b c baize 3;door c d open;"
                + "person p in a;person q in d deaf " + deaf + ";");
            Check.good(x, "close(0, 0, 0): 9 less 6", x.close(0, 0, 0), deaf < 3 ? 2 : 0);
            x.open(0, 0);
            Check.good(x, "close(0, 0, 1): 6 less 6", x.close(0, 0, 1), 0);
        }
    }

    @Edge(promise = 19, says = "from that of its ROOMS from which it is less, by ways without that DOOR")
    static void theNearerRoomOfTheDoor() {
        DoorTongue x = Check.with("room a;room b;room c;door b a open;door a c open;door b c baize 9;person p in b;"
            + "person q in c deaf 1;");
        Check.good(x, "close(0, 0, 2) by a: 3 less 1", x.close(0, 0, 2), 2);
        x.open(0, 0);
        x.deafen(1, 2);
        Check.good(x, "close(0, 0, 2) by DEAF 2", x.close(0, 0, 2), 0);
    }

    @Edge(promise = 19, says = "of more than 8 the first is forgotten")
    static void eightAndNineSounds() {
        DoorTongue x = Check.with(PromiseTests.PAIR);
        int[] row = {0, 1, 2, 3, 2, 1, 0, 3};
        for (int sound : row) {
            x.close(0, 0, sound);
            x.open(0, 0);
        }
        Check.heardRow(x, 1, 0, 1, 2, 3, 2, 1, 0, 3);
        x.close(0, 0, 1);
        Check.heardRow(x, 1, 1, 2, 3, 2, 1, 0, 3, 1);
        x.open(0, 0);
        x.close(0, 0, 2);
        Check.heardRow(x, 1, 2, 3, 2, 1, 0, 3, 1, 2);
        Check.heardRow(x, 0);
    }

    @Edge(promise = 19, says = "it comes behind what he HEARD ahead")
    static void fullRowsBesideEachOther() {
        DoorTongue x = Check.with("room a;room b;door a b open;person p in a;person q in b;person r in b;person s in b;");
        for (int i = 0; i < 9; i++) {
            x.close(0, 0, 3);
        }
        x.forget(2);
        x.close(0, 0, 2);
        Check.heardRow(x, 0);
        Check.heardRow(x, 1, 3, 3, 3, 3, 3, 3, 3, 2);
        Check.heardRow(x, 2, 2);
        Check.heardRow(x, 3, 3, 3, 3, 3, 3, 3, 3, 2);
    }

    @Edge(promise = 19, says = "(1; 7: he is in no ROOM of it, it is shut)")
    static void closeRefused() {
        DoorTongue x = Check.with("room a;room b;room c;door a b;door b c open;person p in a;person q in b;");
        Check.bad(x, "close(0, 0, 0) of what is shut", x.close(0, 0, 0), 7);
        Check.bad(x, "close(0, 0, 3) of what is shut", x.close(0, 0, 3), 7);
        Check.bad(x, "close(0, 1, 0) from elsewhere", x.close(0, 1, 0), 7);
        Check.heardRow(x, 1);
        Check.good(x, "told(6)", x.told(6), 0);
        Check.good(x, "told(5)", x.told(5), 2);
    }

    @Edge(promise = 19, says = "1 a number that can't be; no such TRAY, ROOM, DOOR, WORD, SOUND, PERSON")
    static void closeOfWhatIsNot() {
        DoorTongue x = Check.with(PromiseTests.PAIR);
        for (int no : new int[] {-1, 2, BIG, LOW}) {
            Check.bad(x, "close(" + no + ", 0, 0)", x.close(no, 0, 0), 1);
        }
        for (int no : new int[] {-1, 1, BIG, LOW}) {
            Check.bad(x, "close(0, " + no + ", 0)", x.close(0, no, 0), 1);
        }
        for (int no : new int[] {-1, 4, BIG, LOW}) {
            Check.bad(x, "close(0, 0, " + no + ")", x.close(0, 0, no), 1);
        }
        x.close(0, 0, 0);
        Check.bad(x, "close(0, 0, 4) of what is shut", x.close(0, 0, 4), 1);
    }

    @Edge(promise = 20, says = "OPENED is a DOOR that is shut by one in a ROOM of it (nobody hears that)")
    static void openFromEachRoomOfIt() {
        DoorTongue x = Check.with("room a;room b;room c;door a b;door b a;door b c;person p in a;person q in b;");
        Check.bad(x, "open(0, 2) from elsewhere", x.open(0, 2), 7);
        Check.good(x, "open(0, 0)", x.open(0, 0), 1);
        Check.good(x, "open(1, 1)", x.open(1, 1), 2);
        Check.good(x, "open(1, 2)", x.open(1, 2), 3);
        Check.good(x, "told(6)", x.told(6), 0);
        Check.heardRow(x, 0);
        Check.heardRow(x, 1);
    }

    @Edge(promise = 20, says = "how many DOORS are OPEN then")
    static void openOneToTen() {
        DoorTongue x = Check.with("room a;room b;person p in a;" + "door a b;".repeat(10));
        for (int door = 0; door < 10; door++) {
            Check.good(x, "open(0, " + door + ")", x.open(0, door), door + 1);
            Check.bad(x, "open(0, " + door + ") again", x.open(0, door), 7);
        }
    }

    @Edge(promise = 20, says = "(1; 7: he is in no ROOM of it, it is OPEN)")
    static void openRefused() {
        DoorTongue x = Check.with("room a;room b;room c;door a b open;door b c;person p in a;");
        Check.bad(x, "open(0, 0) of what is OPEN", x.open(0, 0), 7);
        Check.bad(x, "open(0, 1) from elsewhere", x.open(0, 1), 7);
        Check.good(x, "told(5)", x.told(5), 1);
        for (int no : new int[] {-1, 2, BIG, LOW}) {
            Check.bad(x, "open(0, " + no + ")", x.open(0, no), 1);
        }
        for (int no : new int[] {-1, 1, BIG, LOW}) {
            Check.bad(x, "open(" + no + ", 0) of what is OPEN", x.open(no, 0), 1);
        }
    }

    @Edge(promise = 21, says = "GO: a PERSON goes from one ROOM of an OPEN DOOR to the other one.")
    static void goThereAndBack() {
        DoorTongue x = Check.with("room a;room b;room c;door c a open;door a b open;person p in a;person q in a;");
        Check.good(x, "go(0, 0)", x.go(0, 0), 2);
        Check.good(x, "person(0, 0)", x.person(0, 0), 2);
        Check.good(x, "person(1, 0)", x.person(1, 0), 0);
        Check.bad(x, "go(0, 1) from elsewhere", x.go(0, 1), 7);
        Check.good(x, "go(0, 0)", x.go(0, 0), 0);
        Check.good(x, "go(0, 1)", x.go(0, 1), 1);
        Check.good(x, "person(0, 0)", x.person(0, 0), 1);
        Check.good(x, "told(6)", x.told(6), 0);
    }

    @Edge(promise = 21, says = "(1; 7: he is in no ROOM of it, it is shut)")
    static void goRefused() {
        DoorTongue x = Check.with("room a;room b;room c;door a b;door b c open;person p in a;");
        Check.bad(x, "go(0, 0) of what is shut", x.go(0, 0), 7);
        Check.bad(x, "go(0, 1) from elsewhere", x.go(0, 1), 7);
        Check.good(x, "person(0, 0)", x.person(0, 0), 0);
        for (int no : new int[] {-1, 2, BIG, LOW}) {
            Check.bad(x, "go(0, " + no + ")", x.go(0, no), 1);
        }
        for (int no : new int[] {-1, 1, BIG, LOW}) {
            Check.bad(x, "go(" + no + ", 0) of what is shut", x.go(no, 0), 1);
        }
        x.open(0, 0);
        x.close(0, 0, 3);
        Check.good(x, "go(0, 0) by what was set ajar", x.go(0, 0), 1);
    }

    @Edge(promise = 22, says = "What a PERSON HEARD is forgotten: how many SOUNDS (1; 7: none)")
    static void forgetNoneOneAndEight() {
        DoorTongue x = Check.with(PromiseTests.PAIR);
        Check.bad(x, "forget(1) of none", x.forget(1), 7);
        x.close(0, 0, 3);
        Check.good(x, "forget(1) of one", x.forget(1), 1);
        Check.bad(x, "forget(1) again", x.forget(1), 7);
        for (int i = 0; i < 9; i++) {
            x.close(0, 0, 3);
        }
        Check.good(x, "forget(1) of nine", x.forget(1), 8);
        Check.good(x, "person(1, 3)", x.person(1, 3), 0);
        Check.bad(x, "forget(0): he made them", x.forget(0), 7);
        for (int no : new int[] {-1, 2, BIG, LOW}) {
            Check.bad(x, "forget(" + no + ")", x.forget(no), 1);
        }
    }

    @Edge(promise = 23, says = "A PERSON KNOWS a WORD, or not (1; 7: it is so)")
    static void teachWhatIsSo() {
        DoorTongue x = Check.with("room a;word w says slam;word v says shut;person p in a knows v;person q in a;");
        Check.bad(x, "teach(0, 1, true)", x.teach(0, 1, true), 7);
        Check.bad(x, "teach(0, 0, false)", x.teach(0, 0, false), 7);
        Check.good(x, "teach(0, 1, false)", x.teach(0, 1, false));
        Check.good(x, "teach(0, 0, true)", x.teach(0, 0, true));
        Check.good(x, "person(0, 2)", x.person(0, 2), 1);
        Check.good(x, "person(1, 2)", x.person(1, 2), 0);
        Check.bad(x, "teach(0, 1, false)", x.teach(0, 1, false), 7);
        Check.bad(x, "teach(0, 0, true)", x.teach(0, 0, true), 7);
    }

    @Edge(promise = 23, says = "1 a number that can't be; no such TRAY, ROOM, DOOR, WORD, SOUND, PERSON")
    static void teachWhatIsNot() {
        DoorTongue x = Check.with("room a;word w says slam;word v says shut;person p in a knows v;");
        for (int no : new int[] {-1, 2, 7, 32, BIG, LOW}) {
            Check.bad(x, "teach(0, " + no + ", true)", x.teach(0, no, true), 1);
            Check.bad(x, "teach(0, " + no + ", false)", x.teach(0, no, false), 1);
        }
        for (int no : new int[] {-1, 1, 5, BIG, LOW}) {
            Check.bad(x, "teach(" + no + ", 0, true)", x.teach(no, 0, true), 1);
            Check.bad(x, "teach(" + no + ", 0, false)", x.teach(no, 0, false), 1);
        }
        Check.good(x, "person(0, 2)", x.person(0, 2), 2);
    }

    @Edge(promise = 23, says = "A PERSON KNOWS a WORD, or not")
    static void teachTheLastToTheLast() {
        DoorTongue x = Check.with("word a says slam;word b says shut;word c says latch;word d says ajar;"
            + "word e says slam slam;word f says slam shut;word g says slam latch;room r;person p in r;person q in r;"
            + "person s in r;person t in r;person u in r;");
        Check.good(x, "teach(4, 6, true)", x.teach(4, 6, true));
        Check.good(x, "person(4, 2)", x.person(4, 2), 64);
        Check.good(x, "teach(4, 6, false)", x.teach(4, 6, false));
        Check.good(x, "person(4, 2)", x.person(4, 2), 0);
    }

    @Edge(promise = 24, says = "which says the first n (1 to 4) numbers of a TRAY: its number")
    static void coinOfOneToFour() {
        DoorTongue x = Check.with("room a;person p in a;");
        Check.fill(x, 2, 3, 2, 1, 0);
        for (int n = 1; n <= 4; n++) {
            Check.good(x, "coin(2, " + n + ")", x.coin(2, n), n - 1);
            Check.good(x, "says()", x.says(n - 1), n);
            Check.good(x, "saysAt()", x.saysAt(n - 1, n - 1), 4 - n);
            Check.bad(x, "saysAt()", x.saysAt(n - 1, n), 6);
        }
        Check.good(x, "person(0, 2): nobody KNOWS it", x.person(0, 2), 0);
        for (int n : new int[] {0, 5, -1, BIG, LOW}) {
            Check.bad(x, "coin(2, " + n + ")", x.coin(2, n), 1);
        }
        Check.good(x, "told(2)", x.told(2), 4);
    }

    @Edge(promise = 24, says = "One WORD more that nobody KNOWS")
    static void coinNobodyKnows() {
        DoorTongue x = Check.with("room a;word w says slam;word v says shut;person p in a knows w v;person q in a knows v;");
        Check.fill(x, 0, 2);
        Check.good(x, "coin(0, 1)", x.coin(0, 1), 2);
        Check.good(x, "person(0, 2)", x.person(0, 2), 3);
        Check.good(x, "person(1, 2)", x.person(1, 2), 2);
        Check.good(x, "means(0, 0, 1)", x.means(0, 0, 1), 0);
        Check.good(x, "teach(0, 2, true)", x.teach(0, 2, true));
        Check.good(x, "means(0, 0, 1)", x.means(0, 0, 1), 1);
    }

    @Edge(promise = 24, says = "(1; 2; 3; 4: an eighth; 5: no SOUND; 7: another one says so)")
    static void coinASeventhAndAnEighth() {
        DoorTongue x = new DoorTongue();
        for (int word = 0; word < 7; word++) {
            Check.fill(x, 0, word % 4, word / 4);
            Check.good(x, "coin(0, 2)", x.coin(0, 2), word);
        }
        Check.fill(x, 0, 3, 3);
        Check.bad(x, "coin(0, 2): an eighth", x.coin(0, 2), 4);
        Check.good(x, "told(2)", x.told(2), 7);
        Check.good(x, "saysAt(6, 0)", x.saysAt(6, 0), 2);
    }

    @Edge(promise = 24, says = "(1; 2; 3; 4: an eighth; 5: no SOUND; 7: another one says so)")
    static void coinOfNoSound() {
        DoorTongue x = new DoorTongue();
        for (long no : new long[] {-1, 4, 1L << 32, Long.MIN_VALUE, Long.MAX_VALUE}) {
            x.tray(0, 3, 2);
            x.write(0, 1, no);
            Check.bad(x, "coin(0, 2) of " + no, x.coin(0, 2), 5);
            x.write(0, 0, no);
            Check.bad(x, "coin(0, 1) of " + no, x.coin(0, 1), 5);
        }
        Check.good(x, "told(2)", x.told(2), 0);
        Check.fill(x, 0, 0, 4);
        Check.good(x, "coin(0, 1): the second is not asked", x.coin(0, 1), 0);
    }

    @Edge(promise = 24, says = "7: another one says so")
    static void coinWhatAnotherSays() {
        DoorTongue x = Check.with("word w says slam shut;word v says shut;");
        Check.fill(x, 0, 0, 1, 2);
        Check.bad(x, "coin(0, 2)", x.coin(0, 2), 7);
        Check.good(x, "coin(0, 1): the first of it alone", x.coin(0, 1), 2);
        Check.good(x, "coin(0, 3): and more of it", x.coin(0, 3), 3);
        Check.bad(x, "coin(0, 1): what was coined", x.coin(0, 1), 7);
        Check.bad(x, "coin(0, 3): what was coined", x.coin(0, 3), 7);
        Check.good(x, "told(2)", x.told(2), 4);
    }

    @Edge(promise = 24, says = "STATUS of a call is the first of these that holds")
    static void coinRefusedInOrder() {
        DoorTongue x = Check.with("word a says slam;word b says shut;word c says latch;word d says ajar;"
            + "word e says slam slam;word f says slam shut;word g says slam latch;");
        Check.bad(x, "coin(-1, 1)", x.coin(-1, 1), 1);
        Check.bad(x, "coin(4, 1)", x.coin(4, 1), 1);
        Check.bad(x, "coin(0, 5) of a MISSING one", x.coin(0, 5), 1);
        Check.bad(x, "coin(0, 1) of a MISSING one", x.coin(0, 1), 2);
        x.tray(0, 0, 1);
        Check.bad(x, "coin(0, 2): too few for an eighth", x.coin(0, 2), 3);
        x.write(0, 0, 9);
        Check.bad(x, "coin(0, 1): an eighth of no SOUND", x.coin(0, 1), 4);
        x.write(0, 0, 0);
        Check.bad(x, "coin(0, 1): an eighth that another one says", x.coin(0, 1), 4);
        x.tray(0, 0, 0);
        Check.bad(x, "coin(0, 1) of a row of none", x.coin(0, 1), 3);
    }

    @Edge(promise = 25, says = "One PERSON more, not DEAF, who KNOWS nothing: his number (1; 4: a sixth)")
    static void comeAFifthAndASixth() {
        DoorTongue x = Check.with("room a;room b;word w says slam;person p in a deaf 9 knows w;");
        for (int person = 1; person < 5; person++) {
            Check.good(x, "come(1)", x.come(1), person);
            int[] want = {1, 0, 0, 0};
            for (int what = 0; what < 4; what++) {
                Check.good(x, "person(" + person + ", " + what + ")", x.person(person, what), want[what]);
            }
        }
        Check.bad(x, "come(1): a sixth", x.come(1), 4);
        Check.bad(x, "come(2): a sixth to no ROOM", x.come(2), 1);
        Check.good(x, "told(3)", x.told(3), 5);
    }

    @Edge(promise = 25, says = "One PERSON more, not DEAF, who KNOWS nothing")
    static void comeInThePlaceOfOneTakenBack() {
        DoorTongue x = Check.with("room a;room b;door a b open;word w says slam;person p in a;");
        x.mark();
        x.come(1);
        x.deafen(1, 9);
        x.teach(1, 0, true);
        x.deafen(1, 0);
        x.close(0, 0, 3);
        x.deafen(1, 9);
        x.undo();
        Check.good(x, "come(0)", x.come(0), 1);
        for (int what = 0; what < 4; what++) {
            Check.good(x, "person(1, " + what + ")", x.person(1, what), 0);
        }
    }

    @Edge(promise = 25, says = "no such TRAY, ROOM")
    static void comeToNoRoom() {
        DoorTongue x = Check.with("room a;room b;");
        for (int no : new int[] {-1, 2, 6, 7, BIG, LOW}) {
            Check.bad(x, "come(" + no + ")", x.come(no), 1);
        }
        Check.good(x, "told(3)", x.told(3), 0);
        Check.good(x, "come(1)", x.come(1), 0);
    }

    @Edge(promise = 26, says = "BAIZE of a DOOR from now on (0 to 9): what it was")
    static void lineFromNoneToNine() {
        DoorTongue x = Check.with("room a;room b;door a b baize 4;door a b;");
        Check.good(x, "line(0, 9)", x.line(0, 9), 4);
        Check.good(x, "line(0, 9)", x.line(0, 9), 9);
        Check.good(x, "line(0, 0)", x.line(0, 0), 9);
        Check.good(x, "door(0, 2)", x.door(0, 2), 0);
        Check.good(x, "line(1, 1)", x.line(1, 1), 0);
        for (int no : new int[] {-1, 10, BIG, LOW}) {
            Check.bad(x, "line(1, " + no + ")", x.line(1, no), 1);
        }
        for (int no : new int[] {-1, 2, 9, 10, BIG, LOW}) {
            Check.bad(x, "line(" + no + ", 1)", x.line(no, 1), 1);
        }
        Check.good(x, "door(1, 2)", x.door(1, 2), 1);
        Check.good(x, "loss(0, 1)", x.loss(0, 1), 2);
    }

    @Edge(promise = 27, says = "DEAF from now on (0 to 9): what one was")
    static void deafenFromNoneToNine() {
        DoorTongue x = Check.with("room a;room b;door a b open;person p in a deaf 4;person q in b;");
        Check.good(x, "deafen(0, 9)", x.deafen(0, 9), 4);
        Check.good(x, "hearers(0, 0)", x.hearers(0, 0), 2);
        Check.good(x, "deafen(0, 0)", x.deafen(0, 0), 9);
        Check.good(x, "hearers(0, 3)", x.hearers(0, 3), 3);
        Check.good(x, "person(0, 1)", x.person(0, 1), 0);
        for (int no : new int[] {-1, 10, BIG, LOW}) {
            Check.bad(x, "deafen(1, " + no + ")", x.deafen(1, no), 1);
        }
        for (int no : new int[] {-1, 2, 4, 5, BIG, LOW}) {
            Check.bad(x, "deafen(" + no + ", 1)", x.deafen(no, 1), 1);
        }
        Check.good(x, "person(1, 1)", x.person(1, 1), 0);
    }

    @Edge(promise = 28, says = "ODDS from now on (0 to 16)")
    static void ruleFromNoneToSixteen() {
        DoorTongue x = new DoorTongue();
        for (int odds : new int[] {0, 16, 1, 15}) {
            Check.good(x, "rule(" + odds + ")", x.rule(odds));
            Check.good(x, "told(4)", x.told(4), odds);
        }
        for (int no : new int[] {-1, 17, BIG, LOW}) {
            Check.bad(x, "rule(" + no + ")", x.rule(no), 1);
        }
        Check.good(x, "told(4)", x.told(4), 15);
        x.gale(1, 1);
        Check.fraction(x, "gale(1, 1)", 15, 16);
    }
}
