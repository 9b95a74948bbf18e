/** Edges of promises 34 to 41: what it means. */
final class MeaningEdges {
    private static final int BIG = Integer.MAX_VALUE;
    private static final int LOW = Integer.MIN_VALUE;
    /** q KNOWS all that says ajar one to four times, p nothing. */
    private static final String AJARS = "room a;room b;door a b open;word x says ajar ajar;word y says ajar;"
        + "word z says ajar ajar ajar;word v says ajar ajar ajar ajar;person p in a;person q in b knows v z y x;";

    private MeaningEdges() {
    }

    private static DoorTongue heard(String house, int... row) {
        DoorTongue x = Check.with(house);
        for (int sound : row) {
            x.close(0, 0, sound);
            x.open(0, 0);
        }
        return x;
    }

    @Edge(promise = 34, says = "(of the empty row: one, of no WORDS)")
    static void readingsOfTheEmptyRow() {
        DoorTongue x = Check.with(AJARS);
        for (int person = 0; person < 2; person++) {
            Check.good(x, "readings(" + person + ")", x.readings(person), 1);
            Check.good(x, "first(" + person + ")", x.first(person), 0);
            Check.bad(x, "firstAt(" + person + ", 0)", x.firstAt(person, 0), 6);
        }
        x.close(0, 0, 3);
        x.forget(1);
        Check.good(x, "readings(1) of what was forgotten", x.readings(1), 1);
        x = Check.with("room a;person p in a;");
        Check.good(x, "readings(0) without WORDS", x.readings(0), 1);
    }

    @Edge(promise = 34, says = "rows of WORDS that he KNOWS that say together just that row")
    static void readingsOfOneToEightSounds() {
        DoorTongue x = Check.with(AJARS);
        int[] want = {1, 2, 4, 8, 15, 29, 56, 108, 108};
        for (int many : want) {
            x.close(0, 0, 3);
            Check.good(x, "readings(1)", x.readings(1), many);
        }
    }

    @Edge(promise = 34, says = "rows of WORDS that he KNOWS that say together just that row")
    static void readingsThatFallShort() {
        String house = "room a;room b;door a b open;word x says slam shut;word y says slam;word z says latch slam shut;"
            + "person p in a;person q in b knows x z;";
        DoorTongue x = heard(house, 0);
        Check.good(x, "readings(1) of half a WORD", x.readings(1), 0);
        x.close(0, 0, 1);
        x.open(0, 0);
        Check.good(x, "readings(1) of a WORD", x.readings(1), 1);
        x.close(0, 0, 2);
        x.open(0, 0);
        Check.good(x, "readings(1) of one more SOUND", x.readings(1), 0);
        x.teach(1, 1, true);
        Check.good(x, "readings(1)", x.readings(1), 0);
    }

    @Edge(promise = 34, says = "of more than 8 the first is forgotten")
    static void readingsOfTheLatestEight() {
        String house = "room a;room b;door a b open;word x says slam;word y says ajar ajar;person p in a;"
            + "person q in b knows x y;";
        DoorTongue x = heard(house, 3, 3, 3, 0, 3, 3, 0, 3);
        Check.good(x, "readings(1) of eight", x.readings(1), 0);
        x.close(0, 0, 3);
        Check.good(x, "readings(1) behind a ninth", x.readings(1), 1);
        Check.good(x, "first(1)", x.first(1), 5);
    }

    @Edge(promise = 34, says = "READINGS of what a PERSON HEARD: how many (1).")
    static void readingsOfNobody() {
        DoorTongue x = Check.with(AJARS);
        for (int no : new int[] {-1, 2, 5, BIG, LOW}) {
            Check.bad(x, "readings(" + no + ")", x.readings(no), 1);
            Check.bad(x, "first(" + no + ")", x.first(no), 1);
            Check.bad(x, "firstAt(" + no + ", 0)", x.firstAt(no, 0), 1);
            Check.bad(x, "doubt(" + no + ")", x.doubt(no), 1);
            Check.bad(x, "doubtAt(" + no + ", 0)", x.doubtAt(no, 0), 1);
        }
    }

    @Edge(promise = 35, says = "FIRST of these: how many WORDS (1; 6: none)")
    static void firstOfNone() {
        DoorTongue x = heard(AJARS, 3, 2);
        Check.good(x, "readings(1)", x.readings(1), 0);
        Check.bad(x, "first(1)", x.first(1), 6);
        Check.bad(x, "firstAt(1, 0)", x.firstAt(1, 0), 6);
        Check.bad(x, "firstAt(1, BIG)", x.firstAt(1, BIG), 6);
    }

    @Edge(promise = 35, says = "FIRST: that which comes first by WORDS, one by one.")
    static void firstByWordsNotByHowMany() {
        DoorTongue x = heard(AJARS, 3, 3, 3);
        Check.good(x, "first(1): ajar ajar, ajar", x.first(1), 2);
        Check.good(x, "firstAt(1, 0)", x.firstAt(1, 0), 0);
        Check.good(x, "firstAt(1, 1)", x.firstAt(1, 1), 1);
        x.teach(1, 0, false);
        Check.good(x, "first(1): ajar, ajar, ajar", x.first(1), 3);
        Check.good(x, "firstAt(1, 2)", x.firstAt(1, 2), 1);
        x.teach(1, 1, false);
        Check.good(x, "first(1): all as one", x.first(1), 1);
        Check.good(x, "firstAt(1, 0)", x.firstAt(1, 0), 2);
    }

    @Edge(promise = 35, says = "FIRST: that which comes first by WORDS, one by one.")
    static void firstWhereALowerWordLeadsNowhere() {
        DoorTongue x = heard("room a;room b;door a b open;word u says slam;word x says slam shut;word y says latch;"
            + "word z says shut latch latch;person p in a;person q in b knows u x y z;", 0, 1, 2);
        Check.good(x, "readings(1)", x.readings(1), 1);
        Check.good(x, "first(1)", x.first(1), 2);
        Check.good(x, "firstAt(1, 0)", x.firstAt(1, 0), 1);
        Check.good(x, "firstAt(1, 1)", x.firstAt(1, 1), 2);
        Check.bad(x, "firstAt(1, 2)", x.firstAt(1, 2), 6);
    }

    @Edge(promise = 35, says = "FIRST: that which comes first by WORDS, one by one.")
    static void firstOfEightWords() {
        DoorTongue x = heard("room a;room b;door a b open;word x says ajar;person p in a;person q in b knows x;",
            3, 3, 3, 3, 3, 3, 3, 3, 3);
        Check.good(x, "first(1)", x.first(1), 8);
        Check.good(x, "firstAt(1, 7)", x.firstAt(1, 7), 0);
        Check.bad(x, "firstAt(1, 8)", x.firstAt(1, 8), 6);
    }

    @Edge(promise = 36, says = "the k-th WORD, from 0 on (1: k below 0, too; 6: none, no such)")
    static void firstAtEachPlace() {
        DoorTongue x = heard(AJARS, 3, 3, 3, 3, 3);
        int[] want = {0, 0, 1};
        for (int k = 0; k < 3; k++) {
            Check.good(x, "firstAt(1, " + k + ")", x.firstAt(1, k), want[k]);
        }
        for (int k : new int[] {3, 4, 8, 24, BIG}) {
            Check.bad(x, "firstAt(1, " + k + ")", x.firstAt(1, k), 6);
        }
        Check.bad(x, "firstAt(1, -1)", x.firstAt(1, -1), 1);
        Check.bad(x, "firstAt(1, LOW)", x.firstAt(1, LOW), 1);
        x.forget(1);
        Check.bad(x, "firstAt(1, -1) of none", x.firstAt(1, -1), 1);
    }

    @Edge(promise = 37, says = "READINGS to a PERSON of the first n (0 to 20) numbers of a TRAY as SOUNDS")
    static void meansOfNoneToTwenty() {
        DoorTongue x = Check.with(AJARS);
        x.tray(3, 2, 20);
        for (int i = 0; i < 20; i++) {
            x.write(3, i, 3);
        }
        int[] want = {1, 1, 2, 4, 8, 15};
        for (int n = 0; n < want.length; n++) {
            Check.good(x, "means(1, 3, " + n + ")", x.means(1, 3, n), want[n]);
            Check.good(x, "means(0, 3, " + n + ")", x.means(0, 3, n), n == 0 ? 1 : 0);
        }
        Check.good(x, "means(1, 3, 20)", x.means(1, 3, 20), 283953);
        for (int n : new int[] {-1, 21, BIG, LOW}) {
            Check.bad(x, "means(1, 3, " + n + ")", x.means(1, 3, n), 1);
        }
    }

    @Edge(promise = 37, says = "(1; 2; 3; 5)")
    static void meansRefusedInOrder() {
        DoorTongue x = Check.with(AJARS);
        Check.bad(x, "means(2, 0, 1)", x.means(2, 0, 1), 1);
        Check.bad(x, "means(-1, 0, 1)", x.means(-1, 0, 1), 1);
        Check.bad(x, "means(0, 4, 1)", x.means(0, 4, 1), 1);
        Check.bad(x, "means(0, -1, 1)", x.means(0, -1, 1), 1);
        Check.bad(x, "means(0, 0, 21)", x.means(0, 0, 21), 1);
        Check.bad(x, "means(0, 0, 0) of a MISSING one", x.means(0, 0, 0), 2);
        Check.fill(x, 0, 9);
        Check.bad(x, "means(0, 0, 2)", x.means(0, 0, 2), 3);
        Check.bad(x, "means(0, 0, 1)", x.means(0, 0, 1), 5);
        Check.good(x, "means(0, 0, 0)", x.means(0, 0, 0), 1);
    }

    @Edge(promise = 37, says = "5 a number in a TRAY that can't be")
    static void meansOfNoSound() {
        DoorTongue x = Check.with(AJARS);
        x.tray(0, 3, 2);
        x.write(0, 0, 3);
        for (long no : new long[] {-1, 4, 1L << 32, (1L << 32) + 3, Long.MIN_VALUE, Long.MAX_VALUE}) {
            x.write(0, 1, no);
            Check.bad(x, "means(1, 0, 2) of " + no, x.means(1, 0, 2), 5);
            Check.good(x, "means(1, 0, 1): it is not asked", x.means(1, 0, 1), 1);
        }
    }

    @Edge(promise = 38, says = "what the first n (0 to 6) numbers of a TRAY say as WORDS, known to him or not")
    static void unsaidOfNoneToSix() {
        DoorTongue x = Check.with(AJARS);
        Check.fill(x, 0, 3, 3, 3, 3, 3, 3);
        int[] want = {1, 8, 108, 1490, 20569, 283953, 3919944};
        for (int n = 0; n <= 6; n++) {
            Check.good(x, "unsaid(1, 0, " + n + ")", x.unsaid(1, 0, n), want[n]);
            Check.good(x, "unsaid(0, 0, " + n + ")", x.unsaid(0, 0, n), n == 0 ? 1 : 0);
        }
        for (int n : new int[] {-1, 7, BIG, LOW}) {
            Check.bad(x, "unsaid(1, 0, " + n + ")", x.unsaid(1, 0, n), 1);
        }
    }

    @Edge(promise = 38, says = "known to him or not")
    static void unsaidOfWhatHeDoesNotKnow() {
        DoorTongue x = Check.with("room a;word x says slam shut;word y says slam;word z says shut;word v says latch;"
            + "person p in a knows y z;");
        Check.fill(x, 0, 0, 3);
        Check.good(x, "unsaid(0, 0, 1)", x.unsaid(0, 0, 1), 1);
        Check.good(x, "unsaid(0, 0, 2)", x.unsaid(0, 0, 2), 0);
    }

    @Edge(promise = 38, says = "(1; 2; 3; 5)")
    static void unsaidRefusedInOrder() {
        DoorTongue x = Check.with(AJARS);
        Check.bad(x, "unsaid(2, 0, 1)", x.unsaid(2, 0, 1), 1);
        Check.bad(x, "unsaid(-1, 0, 1)", x.unsaid(-1, 0, 1), 1);
        Check.bad(x, "unsaid(0, 4, 1)", x.unsaid(0, 4, 1), 1);
        Check.bad(x, "unsaid(0, -1, 1)", x.unsaid(0, -1, 1), 1);
        Check.bad(x, "unsaid(0, 0, 7)", x.unsaid(0, 0, 7), 1);
        Check.bad(x, "unsaid(0, 0, 0) of a MISSING one", x.unsaid(0, 0, 0), 2);
        Check.fill(x, 0, 4);
        Check.bad(x, "unsaid(0, 0, 2)", x.unsaid(0, 0, 2), 3);
        Check.bad(x, "unsaid(0, 0, 1): no such WORD", x.unsaid(0, 0, 1), 5);
        x.coin(1, 1);
        Check.fill(x, 1, 0);
        x.coin(1, 1);
        Check.good(x, "unsaid(1, 0, 1) of what was coined", x.unsaid(1, 0, 1), 0);
    }

    @Edge(promise = 38, says = "5 a number in a TRAY that can't be")
    static void unsaidOfNoWord() {
        DoorTongue x = Check.with(AJARS);
        x.tray(0, 3, 2);
        for (long no : new long[] {-1, 4, 7, 1L << 32, Long.MIN_VALUE, Long.MAX_VALUE}) {
            x.write(0, 1, no);
            Check.bad(x, "unsaid(1, 0, 2) of " + no, x.unsaid(1, 0, 2), 5);
            Check.good(x, "unsaid(1, 0, 1): it is not asked", x.unsaid(1, 0, 1), 2);
        }
        x = Check.with("room a;person p in a;");
        Check.fill(x, 0, 0);
        Check.bad(x, "unsaid(0, 0, 1) without WORDS", x.unsaid(0, 0, 1), 5);
        Check.good(x, "unsaid(0, 0, 0) without WORDS", x.unsaid(0, 0, 0), 1);
    }

    @Edge(promise = 39, says = "the shortest row of SOUNDS (1 to 7) of which there are two READINGS to him, or more")
    static void doubtOfTwo() {
        DoorTongue x = Check.with(AJARS);
        Check.good(x, "doubt(1)", x.doubt(1), 2);
        x.teach(1, 0, false);
        Check.good(x, "doubt(1)", x.doubt(1), 3);
        x.teach(1, 2, false);
        Check.good(x, "doubt(1)", x.doubt(1), 4);
        x.teach(1, 3, false);
        Check.bad(x, "doubt(1) of one WORD", x.doubt(1), 6);
        x.teach(1, 1, false);
        Check.bad(x, "doubt(1) of no WORD", x.doubt(1), 6);
    }

    @Edge(promise = 39, says = "the shortest row of SOUNDS (1 to 7)")
    static void doubtOfFiveAndOfSeven() {
        DoorTongue x = Check.with("room a;word x says ajar ajar;word y says ajar ajar ajar;person p in a knows x y;");
        Check.good(x, "doubt(0): 2 and 3, 3 and 2", x.doubt(0), 5);
        // slam shut latch, ajar slam shut, latch; or slam shut latch ajar, slam shut latch.
        x = Check.with("room a;word x says slam shut latch;word y says slam shut latch ajar;word z says ajar slam shut;"
            + "word v says latch;person p in a knows x y z v;");
        Check.good(x, "doubt(0)", x.doubt(0), 7);
        int[] row = {0, 1, 2, 3, 0, 1, 2};
        for (int k = 0; k < 7; k++) {
            Check.good(x, "doubtAt(0, " + k + ")", x.doubtAt(0, k), row[k]);
        }
        Check.bad(x, "doubtAt(0, 7)", x.doubtAt(0, 7), 6);
    }

    @Edge(promise = 39, says = "DOUBT: how many SOUNDS (1; 6: none of so many)")
    static void doubtOfEightIsNotAsked() {
        // slam shut latch, ajar shut shut, latch latch; or slam shut latch ajar, shut shut latch latch.
        DoorTongue x = Check.with("room a;word x says slam shut latch;word y says slam shut latch ajar;"
            + "word z says ajar shut shut;word v says shut shut latch latch;word u says latch latch;"
            + "person p in a knows x y z v u;");
        Check.fill(x, 0, 0, 1, 2, 3, 1, 1, 2, 2);
        Check.good(x, "means(0, 0, 8)", x.means(0, 0, 8), 2);
        Check.bad(x, "doubt(0)", x.doubt(0), 6);
        Check.bad(x, "doubtAt(0, 0)", x.doubtAt(0, 0), 6);
        Check.bad(x, "doubtAt(0, -1)", x.doubtAt(0, -1), 1);
    }

    @Edge(promise = 40, says = "of several the first by SOUNDS, one by one")
    static void doubtOfSeveralTheFirst() {
        DoorTongue x = Check.with("room a;word x says ajar;word y says ajar ajar;word z says slam;word v says shut;"
            + "word u says slam shut;word t says shut slam;person p in a knows x y v t z;person q in a knows x y z v u t;");
        int[][] want = {{1, 0}, {0, 1}};
        for (int person = 0; person < 2; person++) {
            Check.good(x, "doubt(" + person + ")", x.doubt(person), 2);
            for (int k = 0; k < 2; k++) {
                Check.good(x, "doubtAt(" + person + ", " + k + ")", x.doubtAt(person, k), want[person][k]);
            }
        }
    }

    @Edge(promise = 40, says = "the k-th SOUND, from 0 on (1: k below 0, too; 6: none, no such)")
    static void doubtAtEachPlace() {
        DoorTongue x = Check.with(AJARS);
        Check.good(x, "doubtAt(1, 0)", x.doubtAt(1, 0), 3);
        Check.good(x, "doubtAt(1, 1)", x.doubtAt(1, 1), 3);
        for (int k : new int[] {2, 7, 24, BIG}) {
            Check.bad(x, "doubtAt(1, " + k + ")", x.doubtAt(1, k), 6);
        }
        Check.bad(x, "doubtAt(1, -1)", x.doubtAt(1, -1), 1);
        Check.bad(x, "doubtAt(1, LOW)", x.doubtAt(1, LOW), 1);
        Check.bad(x, "doubtAt(0, 0): none", x.doubtAt(0, 0), 6);
        Check.bad(x, "doubtAt(0, -1): none", x.doubtAt(0, -1), 1);
    }

    @Edge(promise = 41, says = "The set of WORDS that a PERSON KNOWS of which another one can read what they say, by his own")
    static void sharedByOtherWords() {
        DoorTongue x = Check.with("room r;word a says slam shut latch ajar;word b says slam;word c says shut latch;"
            + "word d says ajar;word e says latch;word f says shut;word g says ajar slam;"
            + "person p in r knows a b c d e f g;person q in r knows b c d;person s in r;person t in r knows g;");
        Check.good(x, "shared(0, 1)", x.shared(0, 1), 1 + 2 + 4 + 8 + 64);
        Check.good(x, "shared(1, 0)", x.shared(1, 0), 2 + 4 + 8);
        Check.good(x, "shared(0, 2): who KNOWS nothing", x.shared(0, 2), 0);
        Check.good(x, "shared(2, 0): who KNOWS nothing", x.shared(2, 0), 0);
        Check.good(x, "shared(3, 1)", x.shared(3, 1), 64);
        Check.good(x, "shared(1, 3)", x.shared(1, 3), 0);
        Check.good(x, "shared(0, 3)", x.shared(0, 3), 64);
    }

    @Edge(promise = 41, says = "one and himself where two must be")
    static void sharedWithHimself() {
        DoorTongue x = Check.with(AJARS);
        Check.bad(x, "shared(0, 0)", x.shared(0, 0), 1);
        Check.bad(x, "shared(1, 1)", x.shared(1, 1), 1);
        for (int no : new int[] {-1, 2, BIG, LOW}) {
            Check.bad(x, "shared(" + no + ", 0)", x.shared(no, 0), 1);
            Check.bad(x, "shared(0, " + no + ")", x.shared(0, no), 1);
        }
    }
}
