import java.util.Set;

/** Edges of what an answered call leaves as it was: all but what its promise names. */
final class StayEdges {
    private static final String HOUSE = "odds 9;room a;room b;room c;door a b baize 2 open;door a b;door b c open;"
        + "word z says slam;word y says shut slam;word x says slam shut;person p in a knows z;"
        + "person q in b deaf 2 knows z y x;person r in c;";
    private static final String DAYS = "any;loop 3;any;end;";
    private static final String TAPE = "any;";

    private enum Part { FRACTION, TRAYS, FAULT, HOUSE, LIVED, TAPE, DAYS, MARKS }

    private interface Calls {
        void on(DoorTongue x);
    }

    private StayEdges() {
    }

    /** Something in every part; the text is what stands on the tape. */
    private static DoorTongue rich(String tape) {
        DoorTongue x = Check.with("odds 2;" + PromiseTests.PAIR, "any;");
        x.mark();
        Check.house(x, HOUSE);
        Check.days(x, DAYS);
        x.live(5);
        x.mark();
        x.close(1, 0, 3);
        x.close(1, 2, 3);
        x.close(2, 2, 0);
        Check.fill(x, 0, 0, 1, 2, 2, 1);
        Check.fill(x, 1, 3, 3, 3);
        x.tray(2, 3, 1);
        x.write(2, 0, 1L << 40);
        x.gale(2, 1);
        Check.days(x, "any");
        Check.feed(x, tape);
        x.told(0);
        return x;
    }

    private static String tell(Part part, DoorTongue x) {
        StringBuilder told = new StringBuilder();
        switch (part) {
            case FRACTION:
                return told.append(x.top()).append('/').append(x.bottom()).toString();
            case FAULT:
                return told.append(x.fault(0)).append(" at ").append(x.fault(1)).toString();
            case HOUSE:
                return Check.houseOf(x);
            case TRAYS:
                return trays(x);
            case LIVED:
                for (int what = 0; what < 5; what++) {
                    told.append(x.lived(what)).append(' ');
                }
                return told.toString();
            case TAPE:
                int many = x.feed(0, 0, 0, 0, 0);
                x.house(many);
                return told.append(many).append(' ').append(x.fault(0)).append(" at ").append(x.fault(1)).toString();
            case DAYS:
                return told.append(x.live(7)).append(" by ").append(x.status()).toString();
            default:
                for (int left = x.undo(); left >= 0; left = x.undo()) {
                    told.append(left).append(' ').append(Check.houseOf(x)).append(x.live(1)).append(' ');
                }
                return told.toString();
        }
    }

    private static String trays(DoorTongue x) {
        StringBuilder told = new StringBuilder();
        for (int tray = 0; tray < 4; tray++) {
            for (int place = 0; place < 6; place++) {
                told.append(x.read(tray, place)).append('/').append(x.status()).append(' ');
            }
        }
        return told.toString();
    }

    private static void changes(String call, Calls calls, Part... those) {
        changesBy(TAPE, call, calls, those);
    }

    /** Each part that is not among those that change is asked for on an object of its own. */
    private static void changesBy(String tape, String call, Calls calls, Part... those) {
        Set<Part> some = Set.of(those);
        for (Part part : Part.values()) {
            if (!some.contains(part)) {
                DoorTongue x = rich(tape);
                calls.on(x);
                Check.due(call + " STATUS", x.status(), 0);
                Check.same(part + " behind " + call, tell(part, x), tell(part, rich(tape)));
            }
        }
    }

    @Edge(promise = 5, says = "A TRAY is a row of so many 0s")
    static void traysAlone() {
        changes("tray(0, 1, 3)", x -> x.tray(0, 1, 3), Part.TRAYS);
        changes("write(0, 1, 3)", x -> x.write(0, 1, 3), Part.TRAYS);
        changes("pour(0, 0, 1, 0, 2)", x -> x.pour(0, 0, 1, 0, 2), Part.TRAYS);
        changes("copyRooms(0)", x -> x.copyRooms(0), Part.TRAYS);
    }

    @Edge(promise = 9, says = "Twenty bytes come behind those on the tape")
    static void theTapeAlone() {
        changes("feed(1, 2, 3, 4, 5)", x -> Check.due("feed()", x.feed(1, 2, 3, 4, 5), 40), Part.TAPE);
    }

    @Edge(promise = 10, says = "A HOUSE that is taken is there in place of that ahead")
    static void houseAndWhatComesWithIt() {
        Calls calls = x -> Check.due("house(7)", x.house(7), 0);
        changesBy("room a;", "house(7)", calls, Part.HOUSE, Part.DAYS, Part.TAPE, Part.FAULT);
    }

    @Edge(promise = 11, says = "Likewise the DAYS: how many STEPS")
    static void daysAndWhatComesWithThem() {
        changes("days(4)", x -> Check.due("days(4)", x.days(4), 1), Part.DAYS, Part.TAPE, Part.FAULT);
    }

    @Edge(promise = 19, says = "CLOSE: the set of PEOPLE who HEARD it")
    static void whatIsDoneChangesTheHouseAlone() {
        changes("close(1, 0, 0)", x -> x.close(1, 0, 0), Part.HOUSE);
        changes("open(1, 2)", x -> x.open(1, 2), Part.HOUSE);
        changes("go(0, 0)", x -> x.go(0, 0), Part.HOUSE);
        changes("forget(0)", x -> x.forget(0), Part.HOUSE);
        changes("teach(0, 1, true)", x -> x.teach(0, 1, true), Part.HOUSE);
        changes("coin(1, 2)", x -> x.coin(1, 2), Part.HOUSE);
        changes("come(0)", x -> x.come(0), Part.HOUSE);
        changes("line(0, 3)", x -> x.line(0, 3), Part.HOUSE);
        changes("deafen(0, 3)", x -> x.deafen(0, 3), Part.HOUSE);
        changes("rule(3)", x -> x.rule(3), Part.HOUSE);
    }

    @Edge(promise = 13, says = "How many ROOMS (what 0), DOORS (1), WORDS (2), PEOPLE (3)")
    static void questionsOfWhatIsThereChangeNothing() {
        changes("told(5)", x -> x.told(5));
        changes("read(0, 0)", x -> x.read(0, 0));
        changes("door(0, 0)", x -> x.door(0, 0));
        changes("says(1)", x -> x.says(1));
        changes("saysAt(1, 1)", x -> x.saysAt(1, 1));
        changes("person(0, 3)", x -> x.person(0, 3));
        changes("heardAt(0, 0)", x -> x.heardAt(0, 0));
        changes("lived(0)", x -> x.lived(0));
        changes("status(), top(), bottom(), fault()", x -> {
            x.read(0, 0);
            x.fault((int) (x.status() + x.top() - x.bottom()));
        });
    }

    @Edge(promise = 30, says = "HEARERS of a DOOR and a SOUND: the set of PEOPLE who would HEAR it, made by nobody")
    static void questionsOfHearingAndMeaningChangeNothing() {
        changes("loss(0, 2)", x -> x.loss(0, 2));
        changes("hearers(0, 0)", x -> x.hearers(0, 0));
        changes("hears(0, 0)", x -> x.hears(0, 0));
        changes("hush(0, 0, 2)", x -> x.hush(0, 0, 2));
        changes("secret(1, 0, 2, 3)", x -> x.secret(1, 0, 2, 3));
        changes("readings(0)", x -> x.readings(0));
        changes("first(2)", x -> {
            x.forget(2);
            x.first(2);
        }, Part.HOUSE);
        changes("firstAt(1, 0)", x -> x.firstAt(1, 0));
        changes("means(0, 0, 3)", x -> x.means(0, 0, 3));
        changes("unsaid(0, 0, 3)", x -> x.unsaid(0, 0, 3));
        changes("doubt(1)", x -> x.doubt(1));
        changes("doubtAt(1, 0)", x -> x.doubtAt(1, 0));
        changes("shared(0, 1)", x -> x.shared(0, 1));
    }

    @Edge(promise = 42, says = "FAR is a ROOM from another one by the fewest DOORS that are OPEN")
    static void questionsOfWaysAndGamesChangeNothing() {
        changes("far(0, 1)", x -> x.far(0, 1));
        changes("way(0, 1, 1)", x -> x.way(0, 1, 1));
        changes("part(0)", x -> x.part(0));
        changes("apart(0, 1)", x -> x.apart(0, 1));
        changes("apartSet(0, 1)", x -> x.apartSet(0, 1));
        changes("together(0, 2)", x -> x.together(0, 2));
        changes("culprits(0, 1)", x -> x.culprits(0, 1));
        changes("game(0, 4)", x -> x.game(0, 4));
        changes("moveOf(0, 1)", x -> x.moveOf(0, 1));
    }

    @Edge(promise = 51, says = "The FRACTION is GALE")
    static void theFractionAlone() {
        changes("gale(3, 2)", x -> x.gale(3, 2), Part.FRACTION);
        changes("mean(3, 7)", x -> x.mean(3, 7), Part.FRACTION);
    }

    @Edge(promise = 53, says = "all is as it is then")
    static void aLifeChangesTheHouseAndWhatWasLived() {
        changes("live(8)", x -> x.live(8), Part.HOUSE, Part.LIVED);
    }

    @Edge(promise = 56, says = "the DAYS are kept as they are")
    static void marksAlone() {
        changes("mark()", x -> x.mark(), Part.MARKS);
    }

    @Edge(promise = 57, says = "all is taken back to the latest MARK, which is gone then")
    static void whatIsTakenBack() {
        changes("undo()", x -> x.undo(), Part.HOUSE, Part.DAYS, Part.MARKS);
        changes("mark() and undo()", x -> {
            x.mark();
            x.rule(1);
            x.undo();
        });
    }
}
