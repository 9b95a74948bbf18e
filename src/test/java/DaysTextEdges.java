import java.util.List;

/** Edges of the DAYS' text: what its STEPS hold, and its FAULTS. */
final class DaysTextEdges {
    private static final String HOUSE = "room a;room b;door a b open;door a b;door b a;word w says slam;"
        + "person p in a;person q in b;";
    private static final String THIRTY = "any;".repeat(30);

    private DaysTextEdges() {
    }

    private static void fault(String marked, int kind) {
        Check.daysFault(HOUSE, marked, kind);
    }

    private static DoorTongue taken(String text, int steps) {
        return Check.daysTaken(HOUSE, text, steps);
    }

    @Edge(promise = 11, says = "DAYS: {STEP}.")
    static void eachStep() {
        taken("close p 0 slam;", 1);
        taken("close q 2 ajar;open p 1;go q 0;forget p;any;stop;", 6);
        taken("when in p b;end;", 1);
        taken("when open 2;any;end;", 2);
        taken("when heard q<1;end;when heard q>1;end;when heard q=1;end;", 3);
        taken("loop 1;end;", 1);
        taken("loop 3;stop;any;end;stop;", 4);
    }

    @Edge(promise = 11, says = "Likewise the DAYS: how many STEPS")
    static void endIsNoStep() {
        taken("loop 1;loop 1;loop 1;end;end;end;loop 1;end;", 4);
    }

    @Edge(promise = 11, says = "FAULTS: 1, 2 as above")
    static void whatIsNoStep() {
        for (String word : Check.RESERVED) {
            if (!List.of("close", "open", "go", "forget", "any", "when", "loop", "stop", "end").contains(word)) {
                fault("^" + word, 2);
                fault("any;^" + word + " p 0;", 2);
            }
        }
        fault("^p;", 2);
        fault("^0;", 2);
        fault("any;^;", 2);
        fault("^anyway;", 2);
        fault("any;^$", 1);
    }

    @Edge(promise = 11, says = "2 it can't stand there (the end: the text's length")
    static void theEndInEachPlace() {
        String whole = "close p 0 slam;open q 1;go p 2;forget p;any;when in p b;when open 1;when heard p = 3;end;end;"
            + "end;loop 9;end;stop;";
        for (int n = 1; n <= whole.length(); n++) {
            String text = whole.substring(0, n);
            if (text.endsWith(" ")) {
                fault(text + "^", 2);
                fault(text + "\n^", 2);
            }
        }
        fault("close^", 2);
        fault("close p^", 2);
        fault("close p 0^", 2);
        fault("close p 0 slam^", 2);
        fault("any^", 2);
        fault("stop^", 2);
        fault("loop 2^", 2);
        fault("loop 2;end^", 2);
        fault("when heard p<3^", 2);
    }

    @Edge(promise = 11, says = "an end without a beginning; the text's end ahead of an end: 2")
    static void anEndWithoutABeginning() {
        fault("^end;", 2);
        fault("any;^end;", 2);
        fault("loop 1;end;^end;", 2);
        fault("when open 0;loop 1;end;end;any;^end;", 2);
        fault(THIRTY + "^end;", 2);
    }

    @Edge(promise = 11, says = "an end without a beginning; the text's end ahead of an end: 2")
    static void theTextsEndAheadOfAnEnd() {
        fault("loop 1;^", 2);
        fault("loop 1;any; ^", 2);
        fault("when open 0;^", 2);
        fault("loop 1;when open 0;end;\n^", 2);
        fault("loop 1;loop 1;loop 1;end;end;^", 2);
        fault("loop 1;" + "any;".repeat(29) + "^", 2);
    }

    @Edge(promise = 11, says = "close NAME NUMBER SOUND ; or open NAME NUMBER ; or go NAME NUMBER ; or forget NAME ;")
    static void whatAStepNeeds() {
        fault("close ^0 slam;", 2);
        fault("close p ^slam;", 2);
        fault("close p 0 ^;", 2);
        fault("close p 0 ^open;", 2);
        fault("close p 0 slam ^shut;", 2);
        fault("close p ^q;", 2);
        fault("open ^;", 2);
        fault("open p ^;", 2);
        fault("open p 0 ^slam;", 2);
        fault("go ^0;", 2);
        fault("go p 0 ^0;", 2);
        fault("go p 0 ^any;", 2);
        fault("forget ^;", 2);
        fault("forget p ^0;", 2);
        fault("any ^0;", 2);
        fault("stop ^p;", 2);
        fault("loop ^;end;", 2);
        fault("loop ^p;end;", 2);
        fault("loop 1 ^1;end;", 2);
        fault("loop 1;end ^loop;", 2);
    }

    @Edge(promise = 11, says = "TEST: in NAME NAME, or open NUMBER, or heard NAME COMPARES NUMBER.")
    static void whatATestNeeds() {
        fault("when ^;end;", 2);
        fault("when ^p;end;", 2);
        fault("when ^close p 0 slam;end;", 2);
        fault("when in ^;end;", 2);
        fault("when in p ^;end;", 2);
        fault("when in p ^0;end;", 2);
        fault("when in p a ^b;end;", 2);
        fault("when open ^p;end;", 2);
        fault("when open ^;end;", 2);
        fault("when open 0 ^0;end;", 2);
        fault("when heard ^3;end;", 2);
        fault("when heard p ^3;end;", 2);
        fault("when heard p ^;3;end;", 2);
        fault("when heard p < ^;end;", 2);
        fault("when heard p < ^q;end;", 2);
        fault("when heard p < ^= 3;end;", 2);
        fault("when heard p < 3 ^4;end;", 2);
    }

    @Edge(promise = 11, says = "3 a NAME that is no such one (a PERSON; then a ROOM behind in)")
    static void namesOfOtherThings() {
        for (String name : List.of("a", "w", "z", "pp")) {
            fault("close ^" + name + " 0 slam;", 3);
            fault("open ^" + name + " 0;", 3);
            fault("go ^" + name + " 0;", 3);
            fault("forget ^" + name + ";", 3);
            fault("when in ^" + name + " a;end;", 3);
            fault("when heard ^" + name + " = 1;end;", 3);
        }
        for (String name : List.of("p", "w", "z", "aa")) {
            fault("when in p ^" + name + ";end;", 3);
        }
    }

    @Edge(promise = 11, says = "3 a NAME that is no such one")
    static void whoCameHasNoName() {
        DoorTongue x = Check.with("room r;");
        x.come(0);
        for (char name = 'a'; name <= 'z'; name++) {
            Check.daysFault(x, "forget ^" + name + ";", 3);
        }
        Check.daysFault(x, "forget ^abcdefghi;", 2);
        Check.daysFault(x, "forget ^in;", 2);
    }

    @Edge(promise = 11, says = "4 a NUMBER that can't be (no such DOOR, too)")
    static void noSuchDoor() {
        for (String number : List.of("3", "10", "9999", "0003")) {
            fault("close p ^" + number + " slam;", 4);
            fault("open p ^" + number + ";", 4);
            fault("go p ^" + number + ";", 4);
            fault("when open ^" + number + ";end;", 4);
        }
        taken("close p 2 slam;open p 2;go p 2;when open 2;end;when open 0002;end;", 5);
    }

    @Edge(promise = 11, says = "4 a NUMBER that can't be (no such DOOR, too)")
    static void noDoorAtAll() {
        Check.daysFault("room a;person p in a;", "close p ^0 slam;", 4);
        Check.daysFault("room a;person p in a;", "open p ^0;", 4);
        Check.daysFault("room a;person p in a;", "go p ^0;", 4);
        Check.daysFault("room a;person p in a;", "when open ^0;end;", 4);
    }

    @Edge(promise = 11, says = "heard: how many SOUNDS (0 to 8)")
    static void heardFromNoneToEight() {
        taken("when heard p = 0;end;when heard p = 8;end;when heard p > 8;end;when heard p < 0;end;", 4);
        fault("when heard p = ^9;end;", 4);
        fault("when heard p < ^9;end;", 4);
        fault("when heard p > ^9999;end;", 4);
    }

    @Edge(promise = 11, says = "loop n (1 to 99): as often")
    static void loopFromOneToNinetyNine() {
        DoorTongue x = taken("loop 1;forget p;end;", 2);
        Check.good(x, "live(0)", x.live(0), 2);
        x = taken("loop 99;forget p;end;", 2);
        Check.good(x, "live(0)", x.live(0), 100);
        fault("loop ^0;end;", 4);
        fault("loop ^100;end;", 4);
    }

    @Edge(promise = 11, says = "6 a 31st STEP (at its word of the text; end is none)")
    static void thirtySteps() {
        taken(THIRTY, 30);
        taken("loop 1;" + "any;".repeat(29) + "end;", 30);
        taken("loop 1;end;".repeat(20) + "forget q;".repeat(8), 28);
        taken("loop 1;end;".repeat(16) + "any;".repeat(14), 30);
        taken("loop 1;loop 1;when open 0;" + "any;".repeat(27) + "end;end;end;", 30);
    }

    @Edge(promise = 11, says = "6 a 31st STEP (at its word of the text; end is none)")
    static void aThirtyFirstStep() {
        for (String word : List.of("close", "open", "go", "forget", "any", "when", "loop", "stop")) {
            fault(THIRTY + "^" + word, 6);
        }
        fault("loop 1;end;".repeat(16) + "any;".repeat(14) + "^any;", 6);
        fault("loop 1;" + "any;".repeat(29) + "^any;end;", 6);
        fault("loop 1;" + "any;".repeat(29) + "end; ^close z;", 6);
        fault(THIRTY + "^room", 2);
        fault(THIRTY + "^$", 1);
    }

    @Edge(promise = 11, says = "7 a when, loop within three others (at its word of the text)")
    static void threeWithinEachOther() {
        taken("loop 1;when open 0;loop 1;end;end;end;", 3);
        taken("loop 1;loop 1;loop 1;end;loop 1;end;end;when open 0;when open 0;end;end;end;", 6);
        taken("when open 0;when open 0;when open 0;any;end;end;end;loop 1;loop 1;loop 1;end;end;end;", 7);
    }

    @Edge(promise = 11, says = "7 a when, loop within three others (at its word of the text)")
    static void aFourthWithinThree() {
        fault("loop 1;loop 1;loop 1;^loop 1;end;end;end;end;", 7);
        fault("loop 1;loop 1;loop 1;^when", 7);
        fault("when open 0;when open 0;when open 0;any;^when open 0;", 7);
        fault("when open 0;when open 0;loop 1;\n^loop", 7);
        fault("loop 1;loop 1;loop 1;end;loop 1;end;loop 1;any;^loop 0;", 7);
    }

    @Edge(promise = 11, says = "(of one TOKEN the least kind)")
    static void aThirtyFirstWithinThree() {
        String deep = "loop 1;loop 1;loop 1;" + "any;".repeat(27);
        fault(deep + "^when", 6);
        fault(deep + "^loop", 6);
        fault(deep + "end;end;end;^when", 6);
        fault("loop 1;loop 1;loop 1;" + "any;".repeat(26) + "^when", 7);
        fault("go ^12345;", 1);
    }

    @Edge(promise = 11, says = "(1: above 300, too; 9)")
    static void threeHundredBytes() {
        DoorTongue x = Check.with(HOUSE);
        Check.feed(x, " ".repeat(296) + "any;" + "zzzzz");
        Check.good(x, "days(300)", x.days(300), 1);
        Check.good(x, "live(0)", x.live(0), 1);
        Check.feed(x, " ".repeat(299) + "$any;");
        Check.bad(x, "days(300)", x.days(300), 9);
        Check.due("fault(0)", x.fault(0), 1);
        Check.due("fault(1)", x.fault(1), 299);
        Check.feed(x, " ".repeat(297) + "any;");
        Check.bad(x, "days(300)", x.days(300), 9);
        Check.due("fault(0)", x.fault(0), 2);
        Check.due("fault(1)", x.fault(1), 300);
    }

    @Edge(promise = 11, says = "(1: above 300, too; 9)")
    static void threeHundredAndOneBytes() {
        DoorTongue x = Check.with(HOUSE);
        Check.feed(x, "any;" + " ".repeat(316));
        Check.bad(x, "days(301)", x.days(301), 1);
        Check.bad(x, "days(320)", x.days(320), 1);
        Check.due("fault(1) as of the HOUSE", x.fault(1), -1);
        Check.bad(x, "live(0)", x.live(0), 6);
        Check.good(x, "days(4) of the tape that stayed", x.days(4), 1);
    }

    @Edge(promise = 11, says = "(1: above 300, too; 9)")
    static void daysOfMoreThanTheTape() {
        DoorTongue x = Check.with(HOUSE);
        Check.bad(x, "days(1) of an empty tape", x.days(1), 1);
        Check.feed(x, "any;any;");
        Check.bad(x, "days(-1)", x.days(-1), 1);
        Check.bad(x, "days(21)", x.days(21), 1);
        Check.bad(x, "days(MIN)", x.days(Integer.MIN_VALUE), 1);
        Check.bad(x, "days(MAX)", x.days(Integer.MAX_VALUE), 1);
        Check.good(x, "days(4): the first bytes alone", x.days(4), 1);
        Check.bad(x, "days(1): the tape is empty then", x.days(1), 1);
    }

    @Edge(promise = 11, says = "DAYS are a TEXT of at most 300 bytes")
    static void daysOfNoSteps() {
        DoorTongue x = Check.with(HOUSE, "any;");
        Check.good(x, "days(0)", x.days(0), 0);
        Check.good(x, "live(0) of no STEPS", x.live(0), 0);
    }

    @Edge(promise = 11, says = "but house(), days() with 9 the tape, and what fault() tells")
    static void theOldDaysStay() {
        DoorTongue x = Check.with(HOUSE, "go p 0;go q 0;go p 0;");
        Check.bad(x, "days()", Check.days(x, "any;any;any;any;zzz"), 9);
        Check.bad(x, "house(1): the tape is empty then", x.house(1), 1);
        Check.good(x, "live(0)", x.live(0), 3);
        Check.good(x, "lived(3)", x.lived(3), 3);
        Check.good(x, "days()", Check.days(x, "go p 0;"), 1);
        Check.good(x, "live(0)", x.live(0), 1);
    }

    @Edge(promise = 11, says = "an end without a beginning")
    static void whatWasBegunAheadOfAFault() {
        DoorTongue x = Check.with(HOUSE);
        Check.daysFault(x, "loop 1;when open 0;loop 1;^zzz", 2);
        Check.daysFault(x, "^end;", 2);
        Check.daysFault(x, "loop 1;^", 2);
        Check.good(x, "days()", Check.days(x, "loop 1;loop 1;loop 1;end;end;end;"), 3);
        Check.good(x, "days()", Check.days(x, THIRTY), 30);
        Check.daysFault(x, THIRTY + "^any;", 6);
        Check.good(x, "days()", Check.days(x, THIRTY), 30);
    }

    @Edge(promise = 11, says = "6 a 31st STEP (at its word of the text; end is none)")
    static void manyEndsAmongTheSteps() {
        DoorTongue x = taken("loop 1;end;".repeat(27), 27);
        Check.good(x, "live(0)", x.live(0), 27);
        x = taken("loop 1;end;".repeat(15) + "when heard p<1;end;".repeat(7), 22);
        Check.good(x, "live(0)", x.live(0), 22);
        x = taken("loop 1;end;".repeat(15) + "when heard p=0;go p 0;end;when open 0;go q 0;end;close q 0 ajar;"
            + "when heard p>0;go p 0;forget p;end;loop 3;go p 0;end;", 25);
        Check.good(x, "live(0)", x.live(0), 27);
        Check.good(x, "lived(2)", x.lived(2), 1);
        Check.good(x, "lived(3)", x.lived(3), 6);
    }

    @Edge(promise = 11, says = "Likewise the DAYS")
    static void daysInTurn() {
        DoorTongue x = Check.with(HOUSE);
        for (int i = 0; i < 2; i++) {
            Check.good(x, "days()", Check.days(x, "when heard q<1;any;end;loop 9;go p 1;end;close q 0 ajar;"), 5);
            Check.good(x, "days()", Check.days(x, "when heard q>1;any;end;loop 1;go p 2;end;go q 1;"), 5);
            Check.good(x, "live(0)", x.live(0), 4);
            Check.good(x, "days()", Check.days(x, "when heard q=0;forget p;end;loop 3;forget p;end;stop;"), 5);
            Check.good(x, "live(0)", x.live(0), 7);
            Check.good(x, "lived(0)", x.lived(0), 4);
            Check.good(x, "days()", Check.days(x, "when heard q=1;any;end;open p 0;"), 3);
            Check.good(x, "live(0)", x.live(0), 2);
            Check.good(x, "days()", Check.days(x, "when in p a;forget q;forget q;end;loop 2;forget q;end;open p 0;"), 6);
            Check.good(x, "live(0)", x.live(0), 7);
        }
    }

    @Edge(promise = 11, says = "Likewise the DAYS")
    static void otherDaysInPlaceOfThose() {
        DoorTongue x = Check.with(HOUSE, "go p 0;go q 0;go p 0;");
        String ahead = Check.all(x);
        Check.good(x, "days()", Check.days(x, "forget p;stop;"), 2);
        Check.same("the HOUSE", Check.all(x), ahead);
        Check.good(x, "live(0)", x.live(0), 2);
        Check.good(x, "lived(0)", x.lived(0), 1);
    }
}
