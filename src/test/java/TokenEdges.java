import java.util.List;

/** Edges of what TOKENS and NAMES are, in the texts of HOUSE and DAYS. */
final class TokenEdges {
    private TokenEdges() {
    }

    @Edge(promise = 10, says = "TOKENS, as long as they go, between them blanks (10, 32)")
    static void asLongAsTheyGo() {
        Check.houseFault("^roomer a;", 2);
        Check.houseFault("^rooma;", 2);
        Check.houseFault("room a;^doora b;", 2);
        Check.houseFault("odds 1 ^6;", 2);
        Check.houseFault("room a;person p ^ina;", 2);
    }

    @Edge(promise = 10, says = "TOKENS, as long as they go, between them blanks (10, 32)")
    static void tokensThatTouch() {
        DoorTongue x = Check.houseTaken("odds16;room a;room b;door a b baize9open;person p in a deaf9knows;", 1);
        Check.good(x, "told(4)", x.told(4), 16);
        Check.good(x, "door(0, 2)", x.door(0, 2), 9);
        Check.good(x, "door(0, 3)", x.door(0, 3), 1);
        Check.good(x, "person(0, 1)", x.person(0, 1), 9);
        Check.houseFault("room a^1;", 2);
        Check.houseFault("odds 1^a;", 2);
        x = Check.daysTaken(PromiseTests.PAIR, "when heard p<8;close p 0ajar;end;loop1;end;", 3);
        Check.good(x, "live(0)", x.live(0), 3);
    }

    @Edge(promise = 10, says = "between them blanks (10, 32)")
    static void blanksEverywhere() {
        Check.houseTaken(" \n room\na\n;\n\nperson  p\nin a ; \n", 1);
        Check.houseTaken("\n", 0);
        Check.houseTaken("          ", 0);
        Check.daysTaken(PromiseTests.PAIR, "\n\n any ;\nloop\n2 ;end\n; ", 2);
        Check.daysTaken(PromiseTests.PAIR, " ", 0);
    }

    @Edge(promise = 10, says = "between them blanks (10, 32)")
    static void otherSignsAreNoBlanks() {
        for (int sign : new int[] {0, 1, 8, 9, 11, 12, 13, 14, 31, 33, 127, 128, 138, 160, 255}) {
            Check.houseFault("room a;^" + (char) sign + "room b;", 1);
            Check.houseFault("room ^" + (char) sign + "a;", 1);
            Check.daysFault("", "any;^" + (char) sign, 1);
        }
    }

    @Edge(promise = 10, says = "WORDS OF THE TEXT (small letters)")
    static void lettersAAndZ() {
        Check.houseTaken("room a;room z;room az;room za;", 0);
        for (String sign : List.of("A", "Z", "`", "{", "@", "[", "_", "-", "'")) {
            Check.houseFault("room ^" + sign + ";", 1);
            Check.houseFault("room a^" + sign + ";", 1);
        }
        Check.houseFault("^Room a;", 1);
        Check.houseFault("^rOom a;", 2);
    }

    @Edge(promise = 10, says = "NUMBERS (1 to 4 digits)")
    static void numbersOfOneToFourDigits() {
        for (String number : List.of("9", "09", "009", "0009")) {
            DoorTongue x = Check.houseTaken("odds " + number + ";", 0);
            Check.good(x, "told(4)", x.told(4), 9);
        }
        Check.houseFault("odds ^9999;", 4);
        Check.houseFault("odds ^/;", 1);
        Check.houseFault("odds ^:;", 1);
        Check.houseFault("odds 9^/;", 1);
        Check.houseFault("odds 9^:;", 1);
    }

    @Edge(promise = 10, says = "1 no TOKEN begins so (a NUMBER of 5 digits and more: at its first)")
    static void numbersOfFiveDigits() {
        Check.houseFault("odds ^00009;", 1);
        Check.houseFault("odds ^10000;", 1);
        Check.houseFault("odds ^00000000000000000016;", 1);
        Check.houseFault("^12345", 1);
        Check.houseFault("room ^12345;", 1);
        Check.houseFault("room a^12345;", 1);
        Check.daysFault("", "loop ^00002;end;", 1);
    }

    @Edge(promise = 10, says = "SIGNS ; < > =")
    static void signs() {
        for (String sign : List.of(";", "<", ">", "=")) {
            Check.houseFault("^" + sign, 2);
            Check.houseFault("room ^" + sign, 2);
            Check.daysFault("", "^" + sign, 2);
        }
        for (String sign : List.of("!", "?", ",", ".", "+", "*", "(", "\"", "#", "|", "~")) {
            Check.houseFault("^" + sign, 1);
            Check.houseFault("room ^" + sign, 1);
        }
        for (String sign : List.of("<", ">", "=")) {
            Check.houseFault("room a^" + sign, 2);
        }
    }

    /** 59 to 62 are the bytes of the SIGNS. */
    @Edge(promise = 10, says = "NUMBERS (1 to 4 digits), SIGNS ; < > =")
    static void numbersThatAreNoSigns() {
        Check.houseFault("room a ^59", 2);
        Check.houseFault("room a ^59;", 2);
        Check.daysFault("", "any ^59", 2);
        for (int number = 60; number <= 62; number++) {
            Check.daysFault(PromiseTests.PAIR, "when heard p ^" + number + " 3;end;", 2);
        }
    }

    @Edge(promise = 10, says = "a word of the text of 1 to 8 letters")
    static void namesOfOneAndOfEightLetters() {
        DoorTongue x = Check.houseTaken("room a;room zzzzzzzz;door zzzzzzzz a;word abcdefgh says slam;"
            + "person zyxwvuts in zzzzzzzz knows abcdefgh;", 1);
        Check.good(x, "person(0, 0)", x.person(0, 0), 1);
        Check.good(x, "person(0, 2)", x.person(0, 2), 1);
        Check.good(x, "days()", Check.days(x, "go zyxwvuts 0;when in zyxwvuts zzzzzzzz;end;"), 2);
    }

    @Edge(promise = 10, says = "9 letters and more where a NAME must stand")
    static void namesOfNineLetters() {
        for (String name : List.of("abcdefghi", "aaaaaaaaa", "abcdefghijklmnopqrstuvwxyzabcdefghijklmnopqrstuvwxyz")) {
            Check.houseFault("room ^" + name + ";", 2);
            Check.houseFault("room a;door ^" + name + " a;", 2);
            Check.houseFault("room a;door a ^" + name + ";", 2);
            Check.houseFault("word ^" + name + " says slam;", 2);
            Check.houseFault("room a;person ^" + name + " in a;", 2);
            Check.houseFault("room a;person p in ^" + name + ";", 2);
            Check.houseFault("room a;person p in a knows ^" + name + ";", 2);
            Check.daysFault(PromiseTests.PAIR, "forget ^" + name + ";", 2);
            Check.daysFault(PromiseTests.PAIR, "when in p ^" + name + ";", 2);
        }
    }

    @Edge(promise = 10, says = "a word of the text of 1 to 8 letters")
    static void allEightLettersCount() {
        DoorTongue x = Check.houseTaken("room abcdefgh;room abcdefgi;room bbcdefgh;room abcdefg;room bcdefgh;"
            + "person p in bbcdefgh;person q in abcdefgi;person r in bcdefgh;", 3);
        Check.good(x, "person(0, 0)", x.person(0, 0), 2);
        Check.good(x, "person(1, 0)", x.person(1, 0), 1);
        Check.good(x, "person(2, 0)", x.person(2, 0), 4);
        Check.houseFault("room abcdefgh;door ^abcdefgg abcdefgh;", 3);
    }

    @Edge(promise = 10, says = "that is none of odds, room, door, baize, open, word, says, slam, shut, latch, ajar, "
        + "person, in, deaf, knows, close, go, forget, any, when, heard, loop, end, stop")
    static void wordsThatAreNoNames() {
        for (String word : Check.RESERVED) {
            Check.houseFault("room ^" + word + ";", 2);
            Check.houseFault("word ^" + word + " says slam;", 2);
            Check.houseFault("room a;person ^" + word + " in a;", 2);
            Check.houseFault("room a;door ^" + word + " a;", 2);
            Check.houseFault("room a;door a ^" + word + ";", 2);
            Check.houseFault("room a;person p in ^" + word + ";", 2);
            Check.houseFault("room a;person p in a knows ^" + word + ";", 2);
            Check.daysFault(PromiseTests.PAIR, "forget ^" + word + ";", 2);
            Check.daysFault(PromiseTests.PAIR, "when in p ^" + word + ";", 2);
        }
    }

    @Edge(promise = 10, says = "a word of the text of 1 to 8 letters that is none of odds, room")
    static void wordsThatAreNearlyNoNames() {
        for (String word : Check.RESERVED) {
            Check.houseTaken("room " + word.substring(0, word.length() - 1) + ";room " + word + "s;room x" + word
                + ";person p in " + word + "s;", 1);
            Check.houseFault("^" + word + "s a;", 2);
        }
        Check.houseTaken("room baiz;room perso;room aize;room pen;room doors;room oddsroom;", 0);
    }

    @Edge(promise = 10, says = "One NAME is of one thing alone.")
    static void oneNameOfOneThing() {
        String[] things = {"room n;", "word n says slam;", "person n in a;"};
        String[] again = {"room ^n;", "word ^n says ajar;", "person ^n in a;"};
        for (String one : things) {
            for (String other : again) {
                Check.houseFault("room a;" + one + other, 3);
                Check.houseFault("room a;" + one + "room b;room c;word w says shut;person p in b;" + other, 3);
            }
        }
    }

    @Edge(promise = 10, says = "One NAME is of one thing alone.")
    static void theNameOfAHouseBeforeIsFree() {
        DoorTongue x = Check.with("room n;word w says slam;person p in n;");
        Check.good(x, "house()", Check.house(x, "room w;word p says slam;person n in w;"), 1);
        Check.bad(x, "house()", Check.house(x, "room z;word z says ajar;"), 9);
        Check.good(x, "house()", Check.house(x, "room z;word y says ajar;"), 0);
    }

    @Edge(promise = 10, says = "a NAME that is no such one told ahead")
    static void theNamesOfHousesBeforeAreGone() {
        String house = "room c;room d;room e;word y says slam;word z says shut;";
        for (int many = 0; many < 3; many++) {
            DoorTongue x = Check.with("room a;room b;word w says slam;person p in a;person o in b;");
            for (int k = 0; k < many; k++) {
                Check.good(x, "house()", Check.house(x, "room e;word z says ajar;"), 0);
            }
            Check.houseFault(x, house + "door ^a b;", 3);
            Check.houseFault(x, house + "person q in ^b;", 3);
            Check.houseFault(x, house + "person q in c knows ^w;", 3);
            Check.good(x, "house() of NAMES that are free", Check.house(x, "room w;room o;room p;word a says ajar;"), 0);
        }
    }

    @Edge(promise = 11, says = "3 a NAME that is no such one (a PERSON; then a ROOM behind in)")
    static void theNamesOfHousesBeforeAreGoneForDays() {
        for (int many = 1; many < 4; many++) {
            DoorTongue x = Check.with("room a;room b;person p in a;person o in b;");
            for (int k = 0; k < many; k++) {
                Check.good(x, "house()", Check.house(x, "room c;room d;" + (k == 0 ? "room e;" : "")), 0);
            }
            Check.daysFault(x, "forget ^p;", 3);
            x.come(0);
            Check.daysFault(x, "forget ^o;", 3);
            Check.good(x, "house()", Check.house(x, "room p;person a in p;"), 1);
            Check.daysFault(x, "when in a ^b;end;", 3);
            Check.daysFault(x, "forget ^p;", 3);
        }
    }
}
