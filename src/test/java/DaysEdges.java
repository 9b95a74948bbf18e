/** Edges of promises 53 to 55: how DAYS are lived. */
final class DaysEdges {
    private static final int BIG = Integer.MAX_VALUE;
    private static final int LOW = Integer.MIN_VALUE;
    private static final String PAIR = PromiseTests.PAIR;
    /** 298 STEPS. */
    private static final String MOST = "loop 99;go p 0;go p 0;go p 0;end;";

    private DaysEdges() {
    }

    private static DoorTongue live(String house, String days, int done) {
        DoorTongue x = Check.with(house, days);
        Check.good(x, "live(0) of " + days, x.live(0), done);
        return x;
    }

    @Edge(promise = 53, says = "LIVED by a seed (0 to 9,999)")
    static void seeds() {
        DoorTongue x = Check.with(PAIR, "any;");
        Check.good(x, "live(0)", x.live(0), 1);
        Check.good(x, "live(9999)", x.live(9999), 1);
        for (int no : new int[] {-1, 10000, BIG, LOW}) {
            Check.bad(x, "live(" + no + ")", x.live(no), 1);
        }
        x = new DoorTongue();
        Check.bad(x, "live(10000) without DAYS", x.live(10000), 1);
        Check.bad(x, "live(9999) without DAYS", x.live(9999), 6);
    }

    /** s behind each draw as the document says it, by long arithmetic. */
    private static int openBehind(int seed, int doors, int draws) {
        long s = seed;
        int open = 0;
        for (int i = 0; i < draws; i++) {
            s = (s * 3221L + 11449L) % 65536L;
            open ^= 1 << (int) (s / 8L % doors);
        }
        return open;
    }

    @Edge(promise = 53, says = "becomes what is left of s times 3,221 and 11,449 by 65,536; the draw by n is the rest of s "
        + "by 8, rounded down, by n")
    static void drawsOfEachSeedAndOfSoManyDoors() {
        for (int doors = 1; doors <= 10; doors++) {
            for (int seed : new int[] {0, 1, 16, 17, 9998, 9999}) {
                DoorTongue x = Check.with("room a;room b;" + "door a b;".repeat(doors), "loop 99;any;end;");
                Check.good(x, "live(" + seed + ")", x.live(seed), 100);
                Check.good(x, "told(5) of " + doors + " by " + seed, x.told(5), openBehind(seed, doors, 99));
            }
        }
    }

    @Edge(promise = 53, says = "s, at first the seed")
    static void eachLifeBeginsAnew() {
        DoorTongue x = Check.with("room a;room b;door a b;door a b;door a b;door a b;door a b;", "any;any;any;");
        int once = openBehind(5, 5, 3);
        Check.good(x, "live(5)", x.live(5), 3);
        Check.good(x, "told(5)", x.told(5), once);
        Check.good(x, "live(5) again", x.live(5), 3);
        Check.good(x, "told(5): the same DOORS again", x.told(5), 0);
    }

    @Edge(promise = 53, says = "all is as it is then")
    static void allIsAsItIsThen() {
        DoorTongue x = live(PAIR + "door a b;", "close p 0 ajar;go p 0;close q 0 shut;open q 1;", 4);
        Check.good(x, "told(5)", x.told(5), 2);
        Check.good(x, "told(6)", x.told(6), 2);
        Check.good(x, "person(0, 0)", x.person(0, 0), 1);
        Check.heardRow(x, 0, 1);
        Check.heardRow(x, 1, 3);
        Check.livedIs(x, 0, 2, 2, 1, 0);
    }

    @Edge(promise = 53, says = "if it is OPEN, a slam is HEARD by all, made by nobody, and it is shut, else it is OPEN")
    static void theWindAtADoor() {
        DoorTongue x = live(PAIR, "any;", 1);
        Check.good(x, "told(5): shut", x.told(5), 0);
        Check.heardRow(x, 0, 0);
        Check.heardRow(x, 1, 0);
        Check.livedIs(x, 0, 1, 2, 0, 0);
        Check.good(x, "live(0)", x.live(0), 1);
        Check.good(x, "told(5): OPEN", x.told(5), 1);
        Check.good(x, "person(0, 3)", x.person(0, 3), 1);
        Check.livedIs(x, 0, 0, 0, 0, 0);
        Check.good(x, "told(6)", x.told(6), 1);
    }

    @Edge(promise = 53, says = "if it is OPEN, a slam is HEARD by all, made by nobody, and it is shut, else it is OPEN")
    static void theWindBehindOtherDays() {
        DoorTongue x = Check.with(PAIR + "door a b;", "close p 1 shut;close p 1 shut;");
        Check.days(x, "close q 1 latch;close q 1 latch;");
        Check.good(x, "days()", Check.days(x, "any;any;"), 2);
        Check.good(x, "live(0): at DOOR 1, then at DOOR 0", x.live(0), 2);
        Check.good(x, "told(5)", x.told(5), 2);
        Check.heardRow(x, 0, 0);
        Check.heardRow(x, 1, 0);
    }

    @Edge(promise = 53, says = "any without DOORS (no draw)")
    static void theWindWithoutDoors() {
        DoorTongue x = live("room a;person p in a;", "any;any;", 2);
        Check.livedIs(x, 2, 0, 0, 0, 0);
    }

    @Edge(promise = 53, says = "a close, open, go of a PERSON who is in no ROOM of that DOOR")
    static void missedFromElsewhere() {
        DoorTongue x = live("room a;room b;room c;door a b open;door a b;person p in c;",
            "close p 0 slam;open p 1;go p 0;", 3);
        Check.livedIs(x, 3, 0, 0, 0, 0);
        Check.good(x, "told(5)", x.told(5), 1);
        Check.good(x, "person(0, 0)", x.person(0, 0), 2);
    }

    @Edge(promise = 53, says = "a close, go of what is shut, an open of what is OPEN")
    static void missedOfWhatIsShutOrOpen() {
        DoorTongue x = live("room a;room b;door a b open;door a b;person p in a;person q in b;",
            "close p 1 slam;close p 1 ajar;go p 1;open p 0;", 4);
        Check.livedIs(x, 4, 0, 0, 0, 0);
        Check.good(x, "told(5)", x.told(5), 1);
        Check.heardRow(x, 1);
    }

    @Edge(promise = 53, says = "a forget of who HEARD nothing")
    static void missedForget() {
        DoorTongue x = live(PAIR, "forget q;close p 0 ajar;forget p;forget q;forget q;", 5);
        Check.livedIs(x, 3, 1, 1, 0, 0);
        Check.heardRow(x, 1);
    }

    @Edge(promise = 53, says = "TEST: in NAME NAME, or open NUMBER")
    static void testsThatHoldAndDoNot() {
        DoorTongue x = live(PAIR + "door a b;", "when in p a;forget p;end;when in p b;forget p;forget p;end;"
            + "when open 0;forget p;end;when open 1;forget p;forget p;end;", 6);
        Check.livedIs(x, 2, 0, 0, 0, 0);
        x = live(PAIR, "when open 0;close p 0 slam;when open 0;any;any;end;when in q a;any;end;when in q b;open q 0;end;end;", 6);
        Check.livedIs(x, 0, 1, 1, 0, 0);
    }

    @Edge(promise = 53, says = "COMPARES: < or > or =")
    static void heardComparedWithMany() {
        for (int many = 0; many <= 8; many++) {
            for (int with = 0; with <= 8; with++) {
                DoorTongue x = Check.with(PAIR, "when heard q<" + with + ";go p 0;end;when heard q=" + with
                    + ";open p 0;end;when heard q>" + with + ";forget p;end;");
                for (int i = 0; i < many; i++) {
                    x.close(0, 0, 3);
                }
                Check.good(x, "live(0)", x.live(0), 4);
                Check.livedIs(x, many < with ? 0 : 1);
                Check.good(x, "person(0, 0) of " + many + " and " + with, x.person(0, 0), many < with ? 1 : 0);
            }
        }
        DoorTongue x = live("room a;room b;door a b open;person p in a;person q in b;",
            "when heard q = 1;go p 0;end;when heard q > 0;go p 0;end;when heard q < 0;go p 0;end;", 3);
        Check.good(x, "person(0, 0)", x.person(0, 0), 0);
    }

    @Edge(promise = 53, says = "loop n (1 to 99): as often")
    static void loopOfOneAndOfNinetyNine() {
        DoorTongue x = live(PAIR, "loop 1;go p 0;end;", 2);
        Check.livedIs(x, 0, 0, 0, 1, 0);
        x = live(PAIR, "loop 99;go p 0;end;", 100);
        Check.livedIs(x, 0, 0, 0, 99, 0);
        x = live(PAIR, "loop 2;end;", 1);
        Check.livedIs(x, 0, 0, 0, 0, 0);
    }

    @Edge(promise = 53, says = "(when, loop count as one each time they are come to from ahead; end does not)")
    static void loopsCountFromAhead() {
        live(PAIR, "loop 3;end;loop 3;end;", 2);
        live(PAIR, "loop 3;loop 2;end;end;", 4);
        live(PAIR, "loop 3;loop 2;loop 4;go p 0;end;end;end;", 1 + 3 * (1 + 2 * (1 + 4)));
        live(PAIR, "loop 5;when in p b;go p 0;end;end;", 6);
        live(PAIR, "when in p b;loop 9;go p 0;end;end;", 1);
    }

    @Edge(promise = 53, says = "At most 300 STEPS")
    static void justThreeHundred() {
        DoorTongue x = live(PAIR, MOST + "go p 0;go q 0;go q 0;", 300);
        Check.livedIs(x, 0, 0, 0, 299, 1);
        x = live(PAIR, MOST + "go p 0;go q 0;", 300);
        Check.livedIs(x, 0, 0, 0, 299, 0);
        x = live(PAIR, MOST + "go p 0;", 299);
        Check.livedIs(x, 0, 0, 0, 298, 0);
    }

    @Edge(promise = 53, says = "At most 300 STEPS")
    static void theThreeHundredAndFirstIsNotDone() {
        DoorTongue x = live(PAIR, MOST + "go q 0;go q 0;close p 0 slam;", 300);
        Check.good(x, "told(5)", x.told(5), 1);
        Check.good(x, "person(1, 0)", x.person(1, 0), 1);
        Check.livedIs(x, 0, 0, 0, 299, 1);
        Check.good(x, "live(0) begins anew", x.live(0), 300);
    }

    @Edge(promise = 53, says = "loop n (1 to 99): as often")
    static void whenInThePlaceOfALoopThatWasLeft() {
        DoorTongue x = live(PAIR, "loop 99;loop 99;loop 99;any;end;end;end;", 300);
        Check.good(x, "lived(4)", x.lived(4), 1);
        Check.days(x, "when in q b;when in p a;when in q b;forget q;forget p;end;end;end;forget q;");
        x.forget(0);
        x.forget(1);
        Check.good(x, "live(0)", x.live(0), 6);
        Check.livedIs(x, 3, 0, 0, 0, 0);
    }

    @Edge(promise = 53, says = "or stop")
    static void stopEndsAll() {
        DoorTongue x = live(PAIR, "loop 9;loop 9;go p 0;stop;go p 0;end;end;go p 0;", 4);
        Check.livedIs(x, 0, 0, 0, 1, 0);
        x = live(PAIR, "stop;", 1);
        Check.livedIs(x, 0, 0, 0, 0, 0);
        x = live(PAIR, "when in p b;stop;end;go p 0;", 2);
        Check.livedIs(x, 0, 0, 0, 1, 0);
    }

    @Edge(promise = 54, says = "4: 1 if a STEP was left to be done, else 0")
    static void leftBehindThreeHundred() {
        String[] rests = {"", "end;", "stop;", "stop;go q 0;", "when in p b;go p 0;end;", "loop 9;end;"};
        int[] done = {299, 299, 300, 300, 300, 300};
        for (int i = 0; i < rests.length; i++) {
            String days = i == 1 ? "when open 0;loop 99;go p 0;go p 0;go p 0;end;end;" : MOST + "go p 0;" + rests[i];
            DoorTongue x = live(PAIR, days, done[i]);
            Check.good(x, "lived(4) of " + days, x.lived(4), 0);
        }
        String[] more = {"stop;", "go p 0;", "when open 0;end;", "loop 1;end;", "any;"};
        for (String rest : more) {
            DoorTongue x = live(PAIR, MOST + "go p 0;go p 0;" + rest, 300);
            Check.good(x, "lived(4) with " + rest, x.lived(4), 1);
        }
        DoorTongue x = live(PAIR, MOST + "go p 0;loop 2;end;", 300);
        Check.good(x, "lived(4) of an empty loop", x.lived(4), 0);
        x = live(PAIR, MOST + "loop 2;go p 0;end;", 300);
        Check.good(x, "lived(4): the loop's second", x.lived(4), 1);
    }

    @Edge(promise = 54, says = "(1; 6: there was none)")
    static void livedAheadOfAny() {
        DoorTongue x = Check.with(PAIR, "go p 0;");
        for (int what = 0; what < 5; what++) {
            Check.bad(x, "lived(" + what + ")", x.lived(what), 6);
        }
        for (int no : new int[] {-1, 5, BIG, LOW}) {
            Check.bad(x, "lived(" + no + ")", x.lived(no), 1);
        }
        x.live(10000);
        x.mean(0, 1);
        Check.bad(x, "lived(0): none had STATUS 0", x.lived(0), 6);
        x.live(0);
        Check.livedIs(x, 0, 0, 0, 1, 0);
        for (int no : new int[] {-1, 5, BIG, LOW}) {
            Check.bad(x, "lived(" + no + ")", x.lived(no), 1);
        }
    }

    @Edge(promise = 54, says = "Of live() latest with STATUS 0")
    static void livedLatest() {
        DoorTongue x = Check.with(PAIR, "close p 0 slam;close p 0 slam;go p 0;");
        x.live(0);
        Check.livedIs(x, 2, 1, 1, 0, 0);
        x.live(0);
        Check.livedIs(x, 3, 0, 0, 0, 0);
        x.live(-1);
        x.mean(0, 20);
        Check.livedIs(x, 3, 0, 0, 0, 0);
        Check.days(x, "any");
        x.open(0, 0);
        x.close(0, 0, 3);
        x.go(0, 0);
        Check.livedIs(x, 3, 0, 0, 0, 0);
        Check.house(x, "");
        x.live(0);
        Check.livedIs(x, 3, 0, 0, 0, 0);
    }

    @Edge(promise = 54, says = "Of live() latest with STATUS 0")
    static void livedOfNoStepsBehindMany() {
        DoorTongue x = Check.with(PAIR, "loop 99;go p 0;go p 0;go q 0;open p 0;end;");
        Check.good(x, "live(0)", x.live(0), 300);
        Check.livedIs(x, 74, 0, 0, 225, 1);
        Check.good(x, "days(0)", x.days(0), 0);
        Check.good(x, "live(0) of no STEPS", x.live(0), 0);
        Check.livedIs(x, 0, 0, 0, 0, 0);
    }

    @Edge(promise = 54, says = "2: how often one was HEARD by a PERSON")
    static void heardBySeveral() {
        DoorTongue x = live("room a;room b;door a b open;person p in a;person q in b;person r in b;person s in a deaf 9;"
            + "person t in b;", "close p 0 ajar;close p 0 ajar;forget q;loop 9;close q 0 ajar;end;", 13);
        Check.livedIs(x, 0, 11, 6 + 27, 0, 0);
        Check.good(x, "person(2, 3)", x.person(2, 3), 8);
    }

    @Edge(promise = 54, says = "2: how often one was HEARD by a PERSON")
    static void asOftenHeardAsCanBe() {
        DoorTongue x = live("room a;room b;door a b open;person p in a;person q in b;person r in b;person s in a;"
            + "person t in b;", MOST.replace("go p 0", "close p 0 ajar") + "any;any;close q 0 ajar;", 300);
        Check.livedIs(x, 0, 298, 297 * 4 + 5, 0, 1);
        Check.good(x, "told(6)", x.told(6), 298);
    }

    @Edge(promise = 55, says = "by so many seeds (1 to 20) from one on (1: the last above 9,999, too; 6: no DAYS)")
    static void seedsOfAMean() {
        DoorTongue x = Check.with(PAIR, "any;");
        Check.good(x, "mean(0, 1)", x.mean(0, 1));
        Check.good(x, "mean(0, 20)", x.mean(0, 20));
        Check.good(x, "mean(9999, 1)", x.mean(9999, 1));
        Check.good(x, "mean(9980, 20)", x.mean(9980, 20));
        Check.bad(x, "mean(9999, 2)", x.mean(9999, 2), 1);
        Check.bad(x, "mean(9981, 20)", x.mean(9981, 20), 1);
        Check.bad(x, "mean(10000, 1)", x.mean(10000, 1), 1);
        Check.bad(x, "mean(-1, 2)", x.mean(-1, 2), 1);
        for (int no : new int[] {-1, 0, 21, BIG, LOW}) {
            Check.bad(x, "mean(0, " + no + ")", x.mean(0, no), 1);
        }
        Check.bad(x, "mean(BIG, 20)", x.mean(BIG, 20), 1);
        Check.bad(x, "mean(BIG, BIG)", x.mean(BIG, BIG), 1);
        x = new DoorTongue();
        Check.bad(x, "mean(9999, 2) without DAYS", x.mean(9999, 2), 1);
        Check.bad(x, "mean(9999, 1) without DAYS", x.mean(9999, 1), 6);
    }

    @Edge(promise = 55, says = "The FRACTION is the mean of how many DOORS are OPEN behind the DAYS")
    static void meanOfOneToTwentySeeds() {
        DoorTongue x = Check.with("room a;room b;" + "door a b;".repeat(5), "any;any;any;any;");
        for (int many = 1; many <= 20; many++) {
            int open = 0;
            for (int i = 0; i < many; i++) {
                open += Integer.bitCount(openBehind(9980 + i, 5, 4));
            }
            Check.good(x, "mean(9980, " + many + ")", x.mean(9980, many));
            Check.due("mean(9980, " + many + ") crosswise", x.top() * many, x.bottom() * open);
            Check.due("bottom() divides so many", many % x.bottom(), 0);
        }
    }

    @Edge(promise = 55, says = "all stays as it is")
    static void allStaysBehindAMean() {
        DoorTongue x = Check.with(PAIR + "door a b;word w says ajar;", "any;any;close p 0 ajar;go p 0;forget q;any;any;");
        x.close(0, 0, 3);
        x.mark();
        String ahead = Check.houseOf(x);
        Check.good(x, "mean(3, 20)", x.mean(3, 20));
        Check.same("mean(3, 20)", Check.houseOf(x), ahead);
        long top = x.top();
        long bottom = x.bottom();
        x.gale(1, 1);
        Check.good(x, "mean(3, 20) again", x.mean(3, 20));
        Check.fraction(x, "mean(3, 20) again", top, bottom);
        Check.good(x, "undo()", x.undo(), 0);
    }

    @Edge(promise = 55, says = "(1: the last above 9,999, too; 6: no DAYS)")
    static void meanWithoutDays() {
        DoorTongue x = Check.with(PAIR, "any;");
        Check.house(x, PAIR);
        Check.bad(x, "mean(0, 1)", x.mean(0, 1), 6);
        Check.bad(x, "live(0)", x.live(0), 6);
    }
}
