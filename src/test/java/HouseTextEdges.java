import java.util.List;

/** Edges of the HOUSE's text: what its PARTS hold, and its FAULTS. */
final class HouseTextEdges {
    private static final String ROOMS = "room a;room b;room c;room d;room e;room f;room g;";
    private static final String DOORS = "room a;room b;" + "door a b;".repeat(10);
    private static final String WORDS = "word a says slam;word b says shut;word c says latch;word d says ajar;"
        + "word e says slam slam;word f says slam shut;word g says slam latch;";
    private static final String PEOPLE = "room r;person a in r;person b in r;person c in r;person d in r;person e in r;";
    private static final String[] SOUNDS = {"slam", "shut", "latch", "ajar"};

    private HouseTextEdges() {
    }

    private static String cut(String text) {
        return text.substring(0, text.lastIndexOf(';', text.length() - 2) + 1);
    }

    @Edge(promise = 10, says = "HOUSE: {PART}.")
    static void noPartAtAll() {
        DoorTongue x = Check.with(PromiseTests.PLAIN);
        Check.good(x, "house(0)", x.house(0), 0);
        Check.toldIs(x, 0, 0, 0, 0, 4, 0, 0);
        Check.due("fault(0)", x.fault(0), 0);
        Check.due("fault(1)", x.fault(1), -1);
    }

    @Edge(promise = 10, says = "HOUSE: {PART}.")
    static void partsInAnyOrder() {
        DoorTongue x = Check.houseTaken("word w says slam;room a;person p in a knows w;room b;door b a;odds 3;"
            + "word v says shut;person q in b knows v w;door a b;", 2);
        Check.good(x, "told(4)", x.told(4), 3);
        Check.good(x, "person(1, 2)", x.person(1, 2), 3);
        for (String word : Check.RESERVED) {
            if (!List.of("odds", "room", "door", "word", "person").contains(word)) {
                Check.houseFault("room a;^" + word + " b;", 2);
            }
        }
        Check.houseFault("^a;", 2);
        Check.houseFault("^12;", 2);
        Check.houseFault("room a;^;", 2);
    }

    @Edge(promise = 10, says = "2 it can't stand there (the end: the text's length")
    static void theEndInEachPlace() {
        String whole = "odds 3;room a;room b;door a b baize 4 open;word w says slam ajar;"
            + "person p in a deaf 2 knows w;";
        for (int n = 0; n <= whole.length(); n++) {
            String text = whole.substring(0, n);
            if (text.isEmpty() || text.endsWith(";")) {
                Check.houseTaken(text, n == whole.length() ? 1 : 0);
            } else if (text.endsWith(" ")) {
                Check.houseFault(text + "^", 2);
                Check.houseFault(text + "\n ^", 2);
            }
        }
        Check.houseFault("room^", 2);
        Check.houseFault("room a^", 2);
        Check.houseFault("odds 3 \n\n^", 2);
        Check.houseFault("room a;door a^", 2);
        Check.houseFault("room a;person p in a deaf 2^", 2);
    }

    @Edge(promise = 10, says = "room NAME ; or door NAME NAME [baize NUMBER] [open] ;")
    static void whatADoorMayLeaveOut() {
        DoorTongue x = Check.houseTaken("room a;room b;door a b;door b a baize 5;door a b open;door b a baize 6 open;", 0);
        int[][] want = {{0, 1, 0, 0}, {1, 0, 5, 0}, {0, 1, 0, 1}, {1, 0, 6, 1}};
        for (int door = 0; door < 4; door++) {
            for (int what = 0; what < 4; what++) {
                Check.good(x, "door(" + door + ", " + what + ")", x.door(door, what), want[door][what]);
            }
        }
        String rooms = "room a;room b;door ";
        Check.houseFault(rooms + "a b open ^baize 5;", 2);
        Check.houseFault(rooms + "a b baize 5 ^baize 5;", 2);
        Check.houseFault(rooms + "a b open ^open;", 2);
        Check.houseFault(rooms + "a b baize ^open;", 2);
        Check.houseFault(rooms + "a b ^5;", 2);
        Check.houseFault(rooms + "a ^;", 2);
        Check.houseFault(rooms + "a b ^a;", 2);
    }

    @Edge(promise = 10, says = "person NAME in NAME [deaf NUMBER] [knows {NAME}] ;")
    static void whatAPersonMayLeaveOut() {
        DoorTongue x = Check.houseTaken("room a;room b;word w says slam;word v says shut;person p in b;"
            + "person q in a deaf 7;person r in b knows v;person s in a deaf 8 knows w v;person t in b knows;", 5);
        int[][] want = {{1, 0, 0}, {0, 7, 0}, {1, 0, 2}, {0, 8, 3}, {1, 0, 0}};
        for (int person = 0; person < 5; person++) {
            for (int what = 0; what < 3; what++) {
                Check.good(x, "person(" + person + ", " + what + ")", x.person(person, what), want[person][what]);
            }
        }
        Check.houseFault("room a;word w says slam;person p in a knows w ^deaf 3;", 2);
        Check.houseFault("room a;person p in a deaf 3 ^deaf 3;", 2);
        Check.houseFault("room a;person p in a knows ^knows;", 2);
        Check.houseFault("room a;person p in a deaf ^knows;", 2);
        Check.houseFault("room a;person p in a ^3;", 2);
        Check.houseFault("room a;person p ^a;", 2);
        Check.houseFault("room a;person p in ^;", 2);
        Check.houseFault("room a;person p in a ^a;", 2);
        Check.houseFault("room a;person p in a knows ^3;", 2);
    }

    @Edge(promise = 10, says = "SOUND: slam or shut or latch or ajar.")
    static void theFourSounds() {
        DoorTongue x = Check.houseTaken("word w says slam shut latch ajar;word v says ajar latch shut slam;", 0);
        for (int k = 0; k < 4; k++) {
            Check.good(x, "saysAt(0, " + k + ")", x.saysAt(0, k), k);
            Check.good(x, "saysAt(1, " + k + ")", x.saysAt(1, k), 3 - k);
        }
        Check.houseFault("word w says ^open;", 2);
        Check.houseFault("word w says ^says slam;", 2);
        Check.houseFault("word w says ^slams;", 2);
        Check.houseFault("word w says slam ^person;", 2);
        Check.houseFault("word w says slam ^w;", 2);
        Check.houseFault("word w ^slam;", 2);
    }

    @Edge(promise = 10, says = "ODDS (0 to 16; 4 without)")
    static void oddsFromNoneToSixteen() {
        for (int odds = 0; odds <= 16; odds += 16) {
            DoorTongue x = Check.houseTaken("odds " + odds + ";", 0);
            Check.good(x, "told(4)", x.told(4), odds);
        }
        Check.houseFault("odds ^17;", 4);
        DoorTongue x = Check.with("odds 9;");
        Check.good(x, "house()", Check.house(x, "room a;"), 0);
        Check.good(x, "told(4) without", x.told(4), 4);
    }

    @Edge(promise = 10, says = "5 odds told already (at that word)")
    static void oddsToldTwice() {
        Check.houseFault("odds 1;^odds 1;", 5);
        Check.houseFault("odds 4;room a;^odds", 5);
        Check.houseFault("odds 0;^odds 17;", 5);
        DoorTongue x = Check.with("odds 1;");
        Check.good(x, "house() that tells them once", Check.house(x, "odds 2;"), 0);
        Check.bad(x, "house() that tells them twice", Check.house(x, "odds 3;odds 5;"), 9);
        Check.good(x, "told(4)", x.told(4), 2);
        Check.good(x, "house() behind it", Check.house(x, "odds 6;"), 0);
    }

    @Edge(promise = 10, says = "ROOMS, at most 7")
    static void sevenRooms() {
        DoorTongue x = Check.houseTaken(ROOMS, 0);
        Check.good(x, "told(0)", x.told(0), 7);
        Check.good(x, "part(6)", x.part(6), 64);
        x = Check.houseTaken(cut(ROOMS), 0);
        Check.good(x, "told(0)", x.told(0), 6);
        Check.bad(x, "part(6)", x.part(6), 1);
    }

    @Edge(promise = 10, says = "6 an eighth room, an 11th door, an eighth word, a sixth person (at that word of the text)")
    static void anEighthRoom() {
        Check.houseFault(ROOMS + "^room h;", 6);
        Check.houseFault(ROOMS + "^room", 6);
        Check.houseFault(ROOMS + "odds 1; ^room a;", 6);
        Check.houseFault(cut(ROOMS) + "room g;^room $;", 6);
    }

    @Edge(promise = 10, says = "DOORS, at most 10")
    static void tenDoors() {
        DoorTongue x = Check.houseTaken(DOORS, 0);
        Check.good(x, "told(1)", x.told(1), 10);
        Check.good(x, "door(9, 1)", x.door(9, 1), 1);
        Check.bad(x, "door(10, 1)", x.door(10, 1), 1);
        x = Check.houseTaken(DOORS.replace("a b;", "a b open;"), 0);
        Check.good(x, "told(5)", x.told(5), 1023);
    }

    @Edge(promise = 10, says = "6 an eighth room, an 11th door, an eighth word, a sixth person (at that word of the text)")
    static void anEleventhDoor() {
        Check.houseFault(DOORS + "^door a b;", 6);
        Check.houseFault(DOORS + "^door a a;", 6);
        Check.houseFault(DOORS + "room c;^door", 6);
    }

    @Edge(promise = 10, says = "BAIZE (0 to 9; 0 without)")
    static void baizeFromNoneToNine() {
        DoorTongue x = Check.houseTaken("room a;room b;door a b baize 0;door a b baize 9;door a b;", 0);
        int[] want = {0, 9, 0};
        for (int door = 0; door < 3; door++) {
            Check.good(x, "door(" + door + ", 2)", x.door(door, 2), want[door]);
        }
        Check.houseFault("room a;room b;door a b baize ^10;", 4);
        Check.houseFault("room a;room b;door a b baize ^10 open;", 4);
    }

    @Edge(promise = 10, says = "WORDS, at most 7")
    static void sevenWords() {
        DoorTongue x = Check.houseTaken(WORDS, 0);
        Check.good(x, "told(2)", x.told(2), 7);
        Check.good(x, "saysAt(6, 1)", x.saysAt(6, 1), 2);
        Check.bad(x, "says(7)", x.says(7), 1);
    }

    @Edge(promise = 10, says = "6 an eighth room, an 11th door, an eighth word, a sixth person (at that word of the text)")
    static void anEighthWord() {
        Check.houseFault(WORDS + "^word h says ajar ajar;", 6);
        Check.houseFault(WORDS + "^word a says slam;", 6);
        Check.houseFault(WORDS + "^word", 6);
    }

    @Edge(promise = 10, says = "each says 1 to 4 SOUNDS (0 slam, 1 shut, 2 latch, 3 ajar)")
    static void oneToFourSounds() {
        StringBuilder row = new StringBuilder();
        for (int many = 1; many <= 4; many++) {
            row.append(" ajar");
            DoorTongue x = Check.houseTaken("word w says" + row + ";", 0);
            Check.good(x, "says(0)", x.says(0), many);
        }
        Check.houseFault("word w says ^;", 2);
        Check.houseFault("word w says^", 2);
    }

    @Edge(promise = 10, says = "a fifth SOUND (at it)")
    static void aFifthSound() {
        for (String sound : SOUNDS) {
            Check.houseFault("word w says ajar ajar ajar ajar ^" + sound + ";", 5);
            Check.houseFault("word w says slam shut latch ajar\n ^" + sound, 5);
        }
        Check.houseFault("word v says ajar shut;word w says slam shut latch ajar ^slam slam;", 5);
    }

    @Edge(promise = 10, says = "a WORD that says what another one does (behind its last SOUND)")
    static void aWordThatSaysTheSame() {
        Check.houseFault("word w says slam;word v says slam^;", 5);
        Check.houseFault("word w says slam;word v says slam \n ^;", 5);
        Check.houseFault("word w says slam shut latch ajar;word u says ajar;word v says slam shut latch ajar^;", 5);
        Check.houseFault("word u says ajar;word w says slam;word v says ajar^;room $", 5);
        Check.houseFault(cut(WORDS) + "word g says slam shut^;", 5);
    }

    @Edge(promise = 10, says = "no two the same")
    static void wordsThatAreNearlyTheSame() {
        Check.houseTaken("word a says slam;word b says slam slam;word c says slam slam slam;"
            + "word d says slam slam slam slam;word e says slam shut;word f says shut slam;word g says slam slam shut;", 0);
        DoorTongue x = Check.with("word a says slam;");
        Check.good(x, "house() with what the one before said", Check.house(x, "word b says slam;"), 0);
    }

    @Edge(promise = 10, says = "(of one TOKEN the least kind)")
    static void theLeastKindOfOneToken() {
        Check.houseFault("word w says slam;word v says slam ^room a;", 2);
        Check.houseFault("word w says slam;word v says slam ^1;", 2);
        Check.houseFault("word w says slam;word v says slam^", 2);
        Check.houseFault("word w says slam;word v says slam ^$;", 1);
        Check.houseFault("word w says slam;word v says slam ^12345;", 1);
        Check.houseFault("room ^12345", 1);
        Check.houseFault("odds ^99999;", 1);
    }

    @Edge(promise = 10, says = "FAULTS, the first along the text")
    static void theFirstAlongTheText() {
        Check.houseFault("odds ^17;room a;$", 4);
        Check.houseFault("room a;room ^a;room 12345;", 3);
        Check.houseFault("room a;door a ^a;odds 1;odds 2;", 5);
        Check.houseFault("room ^in;room a;room a;", 2);
        Check.houseFault("room a ^$;room a;", 1);
        Check.houseFault("word w says slam;word v says slam^;odds 99;", 5);
    }

    @Edge(promise = 10, says = "PEOPLE, at most 5")
    static void fivePeople() {
        DoorTongue x = Check.houseTaken(PEOPLE, 5);
        Check.good(x, "told(3)", x.told(3), 5);
        Check.good(x, "person(4, 0)", x.person(4, 0), 0);
        Check.bad(x, "person(5, 0)", x.person(5, 0), 1);
    }

    @Edge(promise = 10, says = "6 an eighth room, an 11th door, an eighth word, a sixth person (at that word of the text)")
    static void aSixthPerson() {
        Check.houseFault(PEOPLE + "^person f in r;", 6);
        Check.houseFault(PEOPLE + "^person a in r;", 6);
        Check.houseFault(PEOPLE + "^person", 6);
    }

    @Edge(promise = 10, says = "DEAF (0 to 9; 0 without)")
    static void deafFromNoneToNine() {
        DoorTongue x = Check.houseTaken("room a;person p in a deaf 0;person q in a deaf 9;person r in a;", 3);
        int[] want = {0, 9, 0};
        for (int person = 0; person < 3; person++) {
            Check.good(x, "person(" + person + ", 1)", x.person(person, 1), want[person]);
        }
        Check.houseFault("room a;person p in a deaf ^10;", 4);
        Check.houseFault("room a;person p in a deaf ^10 knows;", 4);
    }

    @Edge(promise = 10, says = "who KNOW some WORDS (each told once)")
    static void whoKnowsNoneAndAll() {
        DoorTongue x = Check.houseTaken("room r;" + WORDS + "person p in r knows;person q in r knows g f e d c b a;", 2);
        Check.good(x, "person(0, 2)", x.person(0, 2), 0);
        Check.good(x, "person(1, 2)", x.person(1, 2), 127);
    }

    @Edge(promise = 10, says = "a WORD known twice (at the second)")
    static void aWordKnownTwice() {
        String house = "room r;word w says slam;word v says shut;person p in r knows ";
        Check.houseFault(house + "w ^w;", 5);
        Check.houseFault(house + "w v ^w;", 5);
        Check.houseFault(house + "w v ^v w", 5);
        Check.houseFault("room r;" + WORDS + "person p in r knows a b c d e f g ^g;", 5);
        Check.houseTaken(house + "w;person q in r knows w;", 2);
    }

    @Edge(promise = 10, says = "All are numbered as they stand")
    static void numberedAsTheyStand() {
        DoorTongue x = Check.houseTaken("room z;room y;room x;door y x open;door x z;word w says ajar;word v says slam;"
            + "person q in y knows v;person p in x knows w;", 2);
        Check.good(x, "door(0, 0)", x.door(0, 0), 1);
        Check.good(x, "door(0, 1)", x.door(0, 1), 2);
        Check.good(x, "door(1, 0)", x.door(1, 0), 2);
        Check.good(x, "door(1, 1)", x.door(1, 1), 0);
        Check.good(x, "saysAt(0, 0)", x.saysAt(0, 0), 3);
        Check.good(x, "person(0, 0)", x.person(0, 0), 1);
        Check.good(x, "person(0, 2)", x.person(0, 2), 2);
        Check.good(x, "person(1, 0)", x.person(1, 0), 2);
    }

    @Edge(promise = 10, says = "what a PART names must be told ahead")
    static void whatIsNamedBehind() {
        Check.houseFault("room a;door a ^b;room b;", 3);
        Check.houseFault("room b;door ^a b;room a;", 3);
        Check.houseFault("person p in ^a;room a;", 3);
        Check.houseFault("room a;person p in a knows ^w;word w says slam;", 3);
    }

    @Edge(promise = 10, says = "a NAME that is no such one told ahead")
    static void namesOfOtherThings() {
        String house = "room r;word w says slam;person p in r;";
        Check.houseFault(house + "door ^w r;", 3);
        Check.houseFault(house + "door ^p r;", 3);
        Check.houseFault(house + "door r ^w;", 3);
        Check.houseFault(house + "door r ^p;", 3);
        Check.houseFault(house + "person q in ^w;", 3);
        Check.houseFault(house + "person q in ^p;", 3);
        Check.houseFault(house + "person q in ^q;", 3);
        Check.houseFault(house + "person q in r knows ^r;", 3);
        Check.houseFault(house + "person q in r knows ^p;", 3);
        Check.houseFault(house + "person q in r knows w ^q;", 3);
    }

    @Edge(promise = 10, says = "a door from a ROOM to itself (at the second NAME)")
    static void aDoorFromARoomToItself() {
        Check.houseFault("room a;door a ^a;", 5);
        Check.houseFault("room a;room b;door b  ^b baize 10;", 5);
        Check.houseFault("room a;room b;door a b;door a ^a", 5);
    }

    @Edge(promise = 10, says = "A HOUSE that is taken is there in place of that ahead; nobody has HEARD anything; "
        + "there are no DAYS.")
    static void aHouseInPlaceOfThatAhead() {
        DoorTongue x = Check.with(PromiseTests.PAIR, "any;");
        x.close(0, 0, 3);
        Check.good(x, "house() once more", Check.house(x, PromiseTests.PAIR), 2);
        Check.good(x, "person(1, 3)", x.person(1, 3), 0);
        Check.good(x, "readings(1)", x.readings(1), 1);
        Check.bad(x, "forget(1)", x.forget(1), 7);
        Check.bad(x, "live(0)", x.live(0), 6);
        Check.bad(x, "mean(0, 1)", x.mean(0, 1), 6);
    }

    @Edge(promise = 10, says = "A HOUSE that is taken is there in place of that ahead; nobody has HEARD anything")
    static void housesInTurn() {
        DoorTongue x = new DoorTongue();
        String great = "odds 9;room a;room b;room e;door a b baize 3 open;door b a open;word w says slam shut latch;"
            + "word v says ajar;person p in b deaf 4 knows w;person q in b knows v w;";
        String small = "room c;room b;room d;door b c;word u says slam;";
        for (int i = 0; i < 3; i++) {
            Check.good(x, "house()", Check.house(x, great), 2);
            Check.toldIs(x, 3, 2, 2, 2, 9, 3, 0);
            personIs(x, 0, 1, 4, 1);
            personIs(x, 1, 1, 0, 3);
            Check.good(x, "close(0, 0, 2)", x.close(0, 0, 2), 2);
            x.go(0, 1);
            Check.good(x, "house()", Check.house(x, small), 0);
            Check.toldIs(x, 3, 1, 1, 0, 4, 0, 0);
            Check.good(x, "door(0, 0)", x.door(0, 0), 1);
            Check.good(x, "door(0, 2)", x.door(0, 2), 0);
            Check.good(x, "says(0)", x.says(0), 1);
            Check.bad(x, "days() by a NAME of the HOUSE ahead", Check.days(x, "forget p;"), 9);
            Check.due("fault(0)", x.fault(0), 3);
            comeAndBeHeard(x);
        }
    }

    /** His ROOM, DEAF, what he KNOWS; he HEARD nothing. */
    private static void personIs(DoorTongue x, int person, int... want) {
        for (int what = 0; what < 3; what++) {
            Check.good(x, "person(" + person + ", " + what + ")", x.person(person, what), want[what]);
        }
        Check.good(x, "person(" + person + ", 3)", x.person(person, 3), 0);
    }

    private static void comeAndBeHeard(DoorTongue x) {
        for (int person = 0; person < 2; person++) {
            Check.good(x, "come(0)", x.come(0), person);
            personIs(x, person, 0, 0, 0);
        }
        x.open(0, 0);
        Check.good(x, "close(0, 0, 3)", x.close(0, 0, 3), 2);
        Check.good(x, "close(1, 0, 3)", x.close(1, 0, 3), 1);
        for (int person = 0; person < 2; person++) {
            x.deafen(person, 7);
            x.teach(person, 0, true);
            x.go(person, 0);
        }
        x.line(0, 8);
    }

    @Edge(promise = 10, says = "9: the old one stays")
    static void houseBehindAFault() {
        DoorTongue x = new DoorTongue();
        Check.bad(x, "house()", Check.house(x, "odds 1;room a;room b;door a b open;word w says slam shut;person p in a;$"), 9);
        Check.good(x, "house()", Check.house(x, "room b;room a;door a b;word w says slam;"), 0);
        Check.toldIs(x, 2, 1, 1, 0, 4, 0, 0);
        Check.good(x, "says(0)", x.says(0), 1);
    }

    @Edge(promise = 10, says = "A HOUSE that is taken is there in place of that ahead")
    static void aSmallerHouseInPlaceOfAGreater() {
        DoorTongue x = Check.with(PromiseTests.PLAIN);
        Check.good(x, "house()", Check.house(x, "room a;"), 0);
        Check.toldIs(x, 1, 0, 0, 0, 4, 0, 0);
        Check.bad(x, "door(0, 0)", x.door(0, 0), 1);
        Check.bad(x, "says(0)", x.says(0), 1);
        Check.bad(x, "person(0, 0)", x.person(0, 0), 1);
        Check.bad(x, "part(1)", x.part(1), 1);
    }
}
