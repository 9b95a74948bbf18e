/** Edges of promises 13 to 18: what is told of the HOUSE. */
final class ToldEdges {
    private static final int BIG = Integer.MAX_VALUE;
    private static final int LOW = Integer.MIN_VALUE;

    private ToldEdges() {
    }

    @Edge(promise = 13, says = "ODDS (4); the set of DOORS that are OPEN (1 for DOOR 0 ..) (5)")
    static void toldOfEach() {
        DoorTongue x = Check.with(PromiseTests.PLAIN);
        Check.toldIs(x, 4, 3, 4, 3, 8, 5, 0);
    }

    @Edge(promise = 13, says = "1 a number that can't be")
    static void toldOfOthers() {
        DoorTongue x = Check.with(PromiseTests.PLAIN);
        for (int what : new int[] {-1, 7, BIG, LOW}) {
            Check.bad(x, "told(" + what + ")", x.told(what), 1);
        }
    }

    @Edge(promise = 13, says = "the set of DOORS that are OPEN (1 for DOOR 0 ..) (5)")
    static void eachDoorInTheSet() {
        DoorTongue x = Check.with("room a;room b;person p in a;" + "door a b;".repeat(10));
        for (int door = 9; door >= 0; door--) {
            Check.good(x, "told(5)", x.told(5), 1024 - (2 << door));
            x.open(0, door);
        }
        Check.good(x, "told(5) of all", x.told(5), 1023);
        for (int door = 0; door < 10; door++) {
            x.close(0, door, 0);
            Check.good(x, "told(5)", x.told(5), 1024 - (2 << door));
        }
    }

    @Edge(promise = 13, says = "how often a SOUND was made (6)")
    static void soundsThatNobodyHears() {
        DoorTongue x = Check.with("room a;room b;door a b open;person p in a;");
        for (int many = 1; many <= 9; many++) {
            Check.good(x, "close(0, 0, 3)", x.close(0, 0, 3), 0);
            Check.good(x, "told(6)", x.told(6), many);
        }
        x.close(0, 0, 0);
        Check.good(x, "told(6)", x.told(6), 10);
        x.close(0, 0, 0);
        x.open(0, 0);
        x.go(0, 0);
        x.hearers(0, 0);
        Check.good(x, "told(6) behind what makes none", x.told(6), 10);
    }

    @Edge(promise = 14, says = "Of a DOOR, what 0: one ROOM, 1: the other one, 2: BAIZE, 3: 1 if it is OPEN, else 0")
    static void whatOfADoor() {
        DoorTongue x = Check.with("room a;room b;room c;door c a baize 9 open;door b c;");
        int[][] want = {{2, 0, 9, 1}, {1, 2, 0, 0}};
        for (int door = 0; door < 2; door++) {
            for (int what = 0; what < 4; what++) {
                Check.good(x, "door(" + door + ", " + what + ")", x.door(door, what), want[door][what]);
            }
            for (int what : new int[] {-1, 4, BIG, LOW}) {
                Check.bad(x, "door(" + door + ", " + what + ")", x.door(door, what), 1);
            }
        }
    }

    @Edge(promise = 14, says = "no such TRAY, ROOM, DOOR")
    static void noSuchDoor() {
        DoorTongue x = Check.with("room a;room b;room c;door c a baize 9 open;door b c;");
        for (int door : new int[] {-1, 2, 9, 10, 32, BIG, LOW}) {
            for (int what = 0; what < 4; what++) {
                Check.bad(x, "door(" + door + ", " + what + ")", x.door(door, what), 1);
            }
        }
    }

    @Edge(promise = 15, says = "How many SOUNDS a WORD says")
    static void oneToFourSounds() {
        DoorTongue x = Check.with("word a says slam;word b says slam slam;word c says slam slam slam;"
            + "word d says slam slam slam slam;");
        for (int word = 0; word < 4; word++) {
            Check.good(x, "says(" + word + ")", x.says(word), word + 1);
        }
        for (int word : new int[] {-1, 4, 7, BIG, LOW}) {
            Check.bad(x, "says(" + word + ")", x.says(word), 1);
        }
    }

    @Edge(promise = 16, says = "The k-th of these, from 0 on (1: k below 0, too; 6: it has not so many)")
    static void theFirstAndTheLastSound() {
        DoorTongue x = Check.with("word a says ajar;word b says slam shut latch ajar;");
        Check.good(x, "saysAt(0, 0)", x.saysAt(0, 0), 3);
        Check.bad(x, "saysAt(0, 1)", x.saysAt(0, 1), 6);
        for (int k = 0; k < 4; k++) {
            Check.good(x, "saysAt(1, " + k + ")", x.saysAt(1, k), k);
        }
        for (int k : new int[] {4, 5, 28, BIG}) {
            Check.bad(x, "saysAt(1, " + k + ")", x.saysAt(1, k), 6);
        }
        Check.bad(x, "saysAt(1, -1)", x.saysAt(1, -1), 1);
        Check.bad(x, "saysAt(1, LOW)", x.saysAt(1, LOW), 1);
        Check.bad(x, "saysAt(2, 0)", x.saysAt(2, 0), 1);
        Check.bad(x, "saysAt(2, 9)", x.saysAt(2, 9), 1);
        Check.bad(x, "saysAt(-1, 9)", x.saysAt(-1, 9), 1);
    }

    @Edge(promise = 17, says = "Of a PERSON, what 0: his ROOM, 1: DEAF, 2: the set of WORDS he KNOWS (1 for WORD 0 ..), "
        + "3: how many SOUNDS he HEARD and has not forgotten")
    static void whatOfAPerson() {
        DoorTongue x = Check.with("room a;room b;word w says slam;word v says shut;word u says latch;door a b open;"
            + "person p in b deaf 9 knows u w;person q in a;");
        int[][] want = {{1, 9, 5, 0}, {0, 0, 0, 1}};
        x.close(0, 0, 3);
        for (int person = 0; person < 2; person++) {
            for (int what = 0; what < 4; what++) {
                Check.good(x, "person(" + person + ", " + what + ")", x.person(person, what), want[person][what]);
            }
            for (int what : new int[] {-1, 4, BIG, LOW}) {
                Check.bad(x, "person(" + person + ", " + what + ")", x.person(person, what), 1);
            }
        }
        x.forget(1);
        Check.good(x, "person(1, 3): it is forgotten", x.person(1, 3), 0);
    }

    @Edge(promise = 17, says = "no such TRAY, ROOM, DOOR, WORD, SOUND, PERSON")
    static void noSuchPerson() {
        DoorTongue x = Check.with("room a;person p in a;");
        for (int person : new int[] {-1, 1, 4, 5, BIG, LOW}) {
            for (int what = 0; what < 4; what++) {
                Check.bad(x, "person(" + person + ", " + what + ")", x.person(person, what), 1);
            }
        }
    }

    @Edge(promise = 18, says = "The k-th of these SOUNDS, from 0 on (1: k below 0, too; 6: he has not so many)")
    static void noneHeardAtFirst() {
        DoorTongue x = Check.with(PromiseTests.PAIR);
        Check.bad(x, "heardAt(1, 0)", x.heardAt(1, 0), 6);
        Check.bad(x, "heardAt(1, -1)", x.heardAt(1, -1), 1);
        Check.bad(x, "heardAt(2, 0)", x.heardAt(2, 0), 1);
        Check.bad(x, "heardAt(-1, 0)", x.heardAt(-1, 0), 1);
    }

    @Edge(promise = 18, says = "The k-th of these SOUNDS, from 0 on (1: k below 0, too; 6: he has not so many)")
    static void eightHeard() {
        DoorTongue x = Check.with(PromiseTests.PAIR);
        for (int i = 0; i < 8; i++) {
            x.close(0, 0, i % 3 + 1);
            x.open(0, 0);
        }
        for (int k = 0; k < 8; k++) {
            Check.good(x, "heardAt(1, " + k + ")", x.heardAt(1, k), k % 3 + 1);
        }
        for (int k : new int[] {8, 9, 40, BIG}) {
            Check.bad(x, "heardAt(1, " + k + ")", x.heardAt(1, k), 6);
        }
        Check.bad(x, "heardAt(1, LOW)", x.heardAt(1, LOW), 1);
        Check.bad(x, "heardAt(0, 0): he made them", x.heardAt(0, 0), 6);
    }

    @Edge(promise = 18, says = "has not forgotten")
    static void noneHeardBehindForget() {
        DoorTongue x = Check.with(PromiseTests.PAIR);
        x.close(0, 0, 3);
        x.forget(1);
        Check.bad(x, "heardAt(1, 0)", x.heardAt(1, 0), 6);
        x.close(0, 0, 2);
        Check.good(x, "heardAt(1, 0) of the next", x.heardAt(1, 0), 2);
    }
}
