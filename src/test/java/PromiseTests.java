/** For each promise of the document what it answers: ordinary inputs, edges, wrong inputs. */
public final class PromiseTests {
    static final String PLAIN = "odds 8;room a;room b;room c;room d;door a b baize 2 open;door b c baize 1;"
        + "door a c open;word no says slam;word yes says latch;word maybe says slam latch;"
        + "word so says shut ajar;person p in a knows no yes maybe;person q in b deaf 2 knows no;"
        + "person r in c deaf 5 knows;";
    /** A row of four rooms behind open doors, and one room apart. */
    static final String LINE = "room a;room b;room c;room d;room e;door a b open;door b c open;door c d open;"
        + "person p in a;person q in d;person r in e;";
    /** Two rooms side by side. */
    static final String PAIR = "room a;room b;door a b open;person p in a;person q in b;";

    private static final int BIG = Integer.MAX_VALUE;
    private static final int LOW = Integer.MIN_VALUE;

    private PromiseTests() {
    }

    public static void main(String[] args) {
        objects();
        trays();
        texts();
        doings();
        hearing();
        meanings();
        ways();
        games();
        lives();
        marks();
        System.exit(Check.close("PromiseTests"));
    }

    private static void objects() {
        promise1();
        promise2();
        promise3and4();
    }

    private static void promise1() {
        Check.at("1");
        DoorTongue x = new DoorTongue();
        Check.due("status()", x.status(), 0);
        Check.fraction(x, "new", 0, 1);
        for (int i = 0; i < 7; i++) {
            Check.good(x, "told(" + i + ")", x.told(i), i == 4 ? 4 : 0);
        }
        for (int t = 0; t < 4; t++) {
            Check.bad(x, "read()", x.read(t, 0), 2);
        }
        Check.bad(x, "house(1)", x.house(1), 1);
        Check.due("fault(0)", x.fault(0), -1);
        Check.due("fault(1)", x.fault(1), -1);
        Check.bad(x, "live(0)", x.live(0), 6);
        Check.bad(x, "lived(0)", x.lived(0), 6);
        Check.bad(x, "mean(0, 1)", x.mean(0, 1), 6);
        Check.bad(x, "undo()", x.undo(), 6);
        Check.due("NONE", DoorTongue.NONE, -1);
    }

    private static void promise2() {
        Check.at("2");
        DoorTongue x = new DoorTongue();
        x.told(7);
        Check.due("status()", x.status(), 1);
        Check.due("status()", x.status(), 1);
        x.top();
        x.bottom();
        x.fault(0);
        x.fault(9);
        x.feed(1, 2, 3, 4, 5);
        Check.due("status() behind those without one", x.status(), 1);
        x.read(0, 0);
        Check.due("status()", x.status(), 2);
        x.told(0);
        Check.due("status()", x.status(), 0);
        x.house(20);
        Check.due("status()", x.status(), 9);
    }

    private static void promise3and4() {
        Check.at("3, 4");
        DoorTongue x = new DoorTongue();
        x.gale(2, 1);
        Check.fraction(x, "gale(2, 1)", 7, 16);
        x.gale(13, 1);
        Check.fraction(x, "gale(13, 1)", 7, 16);
        x.mean(0, 1);
        Check.fraction(x, "mean(0, 1)", 7, 16);
        x.gale(1, 2);
        Check.fraction(x, "gale(1, 2)", 0, 1);
    }

    private static void trays() {
        promise5();
        promise6and7();
        promise8();
        promise8Order();
    }

    private static void promise5() {
        Check.at("5");
        DoorTongue x = new DoorTongue();
        Check.good(x, "tray(0, 0, 60)", x.tray(0, 0, 60));
        Check.good(x, "read(0, 59)", x.read(0, 59), 0);
        Check.bad(x, "read(0, 60)", x.read(0, 60), 3);
        Check.good(x, "tray(3, 3, 0)", x.tray(3, 3, 0));
        Check.bad(x, "read(3, 0)", x.read(3, 0), 3);
        x.write(0, 5, 9);
        Check.bad(x, "tray(4, 0, 1)", x.tray(4, 0, 1), 1);
        Check.bad(x, "tray(-1, 0, 1)", x.tray(-1, 0, 1), 1);
        Check.bad(x, "tray(0, 4, 1)", x.tray(0, 4, 1), 1);
        Check.bad(x, "tray(0, -1, 1)", x.tray(0, -1, 1), 1);
        Check.bad(x, "tray(0, 0, 61)", x.tray(0, 0, 61), 1);
        Check.bad(x, "tray(0, 0, -1)", x.tray(0, 0, -1), 1);
        Check.bad(x, "tray(BIG)", x.tray(BIG, LOW, BIG), 1);
        Check.good(x, "read(0, 5)", x.read(0, 5), 9);
        x.write(0, 0, 8);
        x.tray(0, 0, 10);
        Check.good(x, "read(0, 5) of a new row", x.read(0, 5), 0);
        Check.good(x, "read(0, 0) of a new row", x.read(0, 0), 0);
        Check.bad(x, "read(0, 10)", x.read(0, 10), 3);
    }

    private static void promise6and7() {
        Check.at("6, 7");
        DoorTongue x = new DoorTongue();
        long[] put = {200, -1, 256, 40000, 1L << 31, 1L << 40, Long.MIN_VALUE, Long.MAX_VALUE};
        for (int sort = 0; sort < 4; sort++) {
            x.tray(sort, sort, 2);
            for (long v : put) {
                long want = sort == 0 ? (byte) v : sort == 1 ? (short) v : sort == 2 ? (int) v : v;
                Check.good(x, "write(" + sort + ", 1, " + v + ")", x.write(sort, 1, v));
                Check.good(x, "read(" + sort + ", 1)", x.read(sort, 1), want);
                Check.good(x, "read(" + sort + ", 0)", x.read(sort, 0), 0);
            }
        }
        x = new DoorTongue();
        Check.bad(x, "write(4, 0, 1)", x.write(4, 0, 1), 1);
        Check.bad(x, "write(-1, -1, 1)", x.write(-1, -1, 1), 1);
        Check.bad(x, "write(1, -1, 1)", x.write(1, -1, 1), 2);
        Check.bad(x, "read(4, 0)", x.read(4, 0), 1);
        Check.bad(x, "read(1, -1)", x.read(1, -1), 2);
        x.tray(1, 1, 2);
        Check.bad(x, "write(1, 2, 1)", x.write(1, 2, 1), 3);
        Check.bad(x, "write(1, -1, 1)", x.write(1, -1, 1), 3);
        Check.bad(x, "read(1, 2)", x.read(1, 2), 3);
        Check.bad(x, "read(1, LOW)", x.read(1, LOW), 3);
        Check.bad(x, "read(1, BIG)", x.read(1, BIG), 3);
        Check.good(x, "read(1, 1)", x.read(1, 1), 0);
    }

    private static void promise8() {
        Check.at("8");
        DoorTongue x = new DoorTongue();
        Check.fill(x, 0, 1, 2, 3, 4, 5);
        x.tray(1, 0, 3);
        Check.good(x, "pour(0, 1, 1, 0, 3)", x.pour(0, 1, 1, 0, 3));
        for (int i = 0; i < 3; i++) {
            Check.good(x, "read(1, " + i + ")", x.read(1, i), i + 2);
        }
        Check.good(x, "pour(0, 0, 0, 1, 4)", x.pour(0, 0, 0, 1, 4));
        int[] up = {1, 1, 2, 3, 4};
        for (int i = 0; i < 5; i++) {
            Check.good(x, "read(0, " + i + ")", x.read(0, i), up[i]);
        }
        Check.good(x, "pour(0, 2, 0, 0, 3)", x.pour(0, 2, 0, 0, 3));
        int[] down = {2, 3, 4, 3, 4};
        for (int i = 0; i < 5; i++) {
            Check.good(x, "read(0, " + i + ")", x.read(0, i), down[i]);
        }
        Check.good(x, "pour(0, 5, 1, 3, 0)", x.pour(0, 5, 1, 3, 0));
    }

    private static void promise8Order() {
        DoorTongue x = new DoorTongue();
        Check.bad(x, "pour(0, 0, 4, 0, 0)", x.pour(0, 0, 4, 0, 0), 1);
        Check.bad(x, "pour(-1, 0, 0, 0, 0)", x.pour(-1, 0, 0, 0, 0), 1);
        Check.bad(x, "pour(0, -1, 1, 0, 0)", x.pour(0, -1, 1, 0, 0), 1);
        Check.bad(x, "pour(0, 0, 1, -1, 0)", x.pour(0, 0, 1, -1, 0), 1);
        Check.bad(x, "pour(0, 0, 1, 0, -1)", x.pour(0, 0, 1, 0, -1), 1);
        x.tray(0, 0, 2);
        Check.bad(x, "pour(0, 9, 1, 0, 0)", x.pour(0, 9, 1, 0, 0), 2);
        Check.bad(x, "pour(1, 9, 0, 0, 0)", x.pour(1, 9, 0, 0, 0), 2);
        x.tray(1, 1, 2);
        Check.bad(x, "pour(0, 9, 1, 0, 0)", x.pour(0, 9, 1, 0, 0), 8);
        x.tray(1, 0, 2);
        Check.bad(x, "pour(0, 3, 1, 0, 0)", x.pour(0, 3, 1, 0, 0), 3);
        Check.bad(x, "pour(0, 1, 1, 0, 2)", x.pour(0, 1, 1, 0, 2), 3);
        Check.bad(x, "pour(0, 0, 1, 1, 2)", x.pour(0, 0, 1, 1, 2), 3);
        Check.bad(x, "pour(0, BIG, 1, 0, BIG)", x.pour(0, BIG, 1, 0, BIG), 3);
        Check.bad(x, "pour(0, 0, 1, BIG, 1)", x.pour(0, 0, 1, BIG, 1), 3);
        Check.good(x, "pour(0, 0, 1, 0, 2)", x.pour(0, 0, 1, 0, 2));
    }

    private static void texts() {
        promise9();
        promise10();
        promise10Anew();
        promise10Limits();
        promise10Faults();
        promise11();
        promise11Faults();
        promise12();
        promise13and14();
        promise15to18();
    }

    private static void promise9() {
        Check.at("9");
        DoorTongue x = new DoorTongue();
        int blanks = 0x20202020;
        int lines = 0x0a0a0a0a;
        for (int i = 1; i <= 45; i++) {
            Check.due("feed()", x.feed(blanks, lines, blanks, lines, blanks), 20 * i);
        }
        x.told(9);
        Check.due("feed() beyond 900", x.feed(0, 0, 0, 0, 0), -1);
        Check.due("STATUS behind feed()", x.status(), 1);
        Check.good(x, "house(900)", x.house(900), 0);
        Check.due("feed() on an empty tape", x.feed(0x726f6f6d, 0x20613b20, 0, 0, 0), 20);
        Check.good(x, "house(7)", x.house(7), 0);
        Check.good(x, "told(0)", x.told(0), 1);
    }

    private static void promise10() {
        Check.at("10");
        DoorTongue x = new DoorTongue();
        Check.good(x, "house(PLAIN)", Check.house(x, PLAIN), 3);
        Check.bad(x, "house(1) of an empty tape", x.house(1), 1);
        Check.good(x, "house(0)", x.house(0), 0);
        Check.good(x, "told(0)", x.told(0), 0);
        Check.good(x, "told(4)", x.told(4), 4);
        x.feed(0, 0, 0, 0, 0);
        Check.bad(x, "house(-1)", x.house(-1), 1);
        Check.bad(x, "house(21)", x.house(21), 1);
        Check.bad(x, "house(BIG)", x.house(BIG), 1);
        Check.due("the tape stays", x.feed(0, 0, 0, 0, 0), 40);
        x = Check.with(PLAIN, "any;");
        x.close(0, 0, 0);
        String ahead = Check.all(x);
        Check.bad(x, "house()", Check.house(x, "room a;room a;"), 9);
        Check.same("house()", Check.all(x), ahead);
        Check.due("an empty tape behind a FAULT", x.feed(0, 0, 0, 0, 0), 20);
        x.house(20);
        Check.good(x, "live(0) as the DAYS stay", x.live(0), 1);
        Check.good(x, "house()", Check.house(x, "room e;person s in e;"), 1);
        Check.good(x, "told(6)", x.told(6), 0);
        Check.good(x, "person(0, 3)", x.person(0, 3), 0);
        Check.bad(x, "live(0) without DAYS", x.live(0), 6);
        Check.good(x, "house() of tokens that touch",
            Check.house(x, "odds5;\n room\na;room b;door a b baize0009open;person p in a deaf3;"), 1);
        Check.good(x, "told(4)", x.told(4), 5);
        Check.good(x, "door(0, 2)", x.door(0, 2), 9);
        Check.good(x, "person(0, 1)", x.person(0, 1), 3);
        Check.good(x, "house(7 bytes)", cutHouse(x, "room a;room", 7), 0);
    }

    /** Nothing of a HOUSE that was there ahead comes again. */
    private static void promise10Anew() {
        DoorTongue x = new DoorTongue();
        for (int i = 0; i < 3; i++) {
            Check.good(x, "house()", Check.house(x, "odds 9;" + PAIR.replace("in b", "in b deaf 9 knows w")
                .replace("person p", "word w says slam;person p")), 2);
            x.deafen(0, 4);
            x.deafen(1, 0);
            x.teach(0, 0, true);
            Check.good(x, "close(0, 0, 3)", x.close(0, 0, 3), 2);
            x.go(0, 0);
            Check.good(x, "close(1, 0, 2)", x.close(1, 0, 2), 0);
        }
        Check.good(x, "house()", Check.house(x, "room a;"), 0);
        Check.toldIs(x, 1, 0, 0, 0, 4, 0, 0);
        for (int p = 0; p < 2; p++) {
            Check.good(x, "come(0)", x.come(0), p);
            for (int w = 0; w < 4; w++) {
                Check.good(x, "person(" + p + ", " + w + ")", x.person(p, w), 0);
            }
        }
    }

    private static int cutHouse(DoorTongue x, String text, int n) {
        Check.feed(x, text);
        return x.house(n);
    }

    /** As many of each as there can be. */
    private static void promise10Limits() {
        DoorTongue x = new DoorTongue();
        StringBuilder text = new StringBuilder("odds 16;");
        for (char c = 'a'; c < 'h'; c++) {
            text.append("room ").append(c).append(';');
        }
        for (int i = 0; i < 10; i++) {
            text.append("door a b baize 9 open;");
        }
        String[] says = {"slam", "shut", "latch", "ajar", "ajar ajar ajar ajar", "slam slam slam slam",
            "ajar slam"};
        for (int i = 0; i < 7; i++) {
            text.append("word ").append((char) ('q' + i)).append(" says ").append(says[i]).append(';');
        }
        for (int i = 0; i < 5; i++) {
            text.append("person abcdefg").append((char) ('a' + i)).append(" in g deaf 9 knows w v u t s r q;");
        }
        Check.good(x, "house()", Check.house(x, text.toString()), 5);
        Check.toldIs(x, 7, 10, 7, 5, 16, 1023, 0);
        Check.good(x, "person(4, 2)", x.person(4, 2), 127);
        Check.good(x, "person(4, 0)", x.person(4, 0), 6);
        Check.bad(x, "coin()", coinOf(x, 1, 1, 1), 4);
        Check.bad(x, "come(0)", x.come(0), 4);
    }

    private static int coinOf(DoorTongue x, int... sounds) {
        Check.fill(x, 3, sounds);
        return x.coin(3, sounds.length);
    }

    private static void houseFault(String text, int kind, int place) {
        DoorTongue x = new DoorTongue();
        Check.bad(x, "house(" + text + ")", Check.house(x, text), 9);
        Check.due("fault(0) of " + text, x.fault(0), kind);
        Check.due("fault(1) of " + text, x.fault(1), place);
    }

    private static void promise10Faults() {
        Check.at("10, FAULTS");
        houseFault("$", 1, 0);
        houseFault("room a;\t", 1, 7);
        houseFault("Room a;", 1, 0);
        houseFault("room a;" + (char) 233, 1, 7);
        houseFault("room aB;", 1, 6);
        houseFault("odds 12345;", 1, 5);
        houseFault("12345", 1, 0);
        houseFault("1234", 2, 0);
        houseFault("room 1;$", 2, 5);
        houseFault("room a $", 1, 7);
        houseFault("room a 12345", 1, 7);
        houseFault("room", 2, 4);
        houseFault("room  \n", 2, 7);
        houseFault("room a", 2, 6);
        houseFault("a", 2, 0);
        houseFault(";", 2, 0);
        houseFault("room a;;", 2, 7);
        houseFault("room a<", 2, 6);
        houseFault("room abcdefghi;", 2, 5);
        houseFault("abcdefghi", 2, 0);
        for (String word : ("odds room door baize open word says slam shut latch ajar person in deaf knows "
                + "close go forget any when heard loop end stop").split(" ")) {
            houseFault("room " + word + ";", 2, 5);
        }
        houseFault("odds;", 2, 4);
        houseFault("odds 17;", 4, 5);
        houseFault("odds 9999;", 4, 5);
        houseFault("odds 1;odds 2;", 5, 7);
        houseFault("room a;room b;door a;", 2, 20);
        houseFault("room a;room b;door a c;", 3, 21);
        houseFault("room a;door a abcdefghi;", 2, 14);
        houseFault("room a;word w says slam;door w a;", 3, 29);
        houseFault("room a;door a a;", 5, 14);
        houseFault("room a;room b;door a b baize 10;", 4, 29);
        houseFault("room a;room b;door a b baize open;", 2, 29);
        houseFault("room a;room b;door a b open open;", 2, 28);
        houseFault("room a;room b;door a b deaf 1;", 2, 23);
        houseFault("room a;word a says slam;", 3, 12);
        houseFault("word w says slam;room w;", 3, 22);
        houseFault("room a;person p in a;word p says slam;", 3, 26);
        houseFault("room a;person p in a;person p in a;", 3, 28);
        houseFault("word w says slam slam slam slam slam;", 5, 32);
        houseFault("word w says slam slam slam slam room;", 2, 32);
        houseFault("word w says slam;word v says slam ;", 5, 34);
        houseFault("word w says slam;word v says slam $", 1, 34);
        houseFault("word w says slam;word v says slam", 2, 33);
        houseFault("word w says slam shut;word v says slam shut latch latch ajar", 5, 56);
        houseFault("word w slam;", 2, 7);
        houseFault("person p in a;", 3, 12);
        houseFault("room a;person p in p;", 3, 19);
        houseFault("room a;person p a;", 2, 16);
        houseFault("room a;person p in a deaf 10;", 4, 26);
        houseFault("room a;person p in a deaf knows;", 2, 26);
        houseFault("room a;person p in a knows a;", 3, 27);
        houseFault("room a;person p in a knows deaf 1;", 2, 27);
        houseFault("room a;person p in a knows abcdefghi;", 2, 27);
        houseFault("room a;word w says ajar;person p in a knows w w;", 5, 46);
        houseFault("room a;word w says ajar;person p in a knows w", 2, 45);
        String seven = "room a;word b says slam;word c says shut;word d says latch;word e says ajar;"
            + "word f says slam slam;word g says slam shut;word h says slam latch;person p in a knows b c d e f g h ";
        houseFault(seven + "b;", 5, seven.length());
        houseFault(seven + "a;", 3, seven.length());
        houseFault(seven + "in;", 2, seven.length());
        String rooms = "room a;room b;room c;room d;room e;room f;room g;";
        houseFault(rooms + "room $", 6, rooms.length());
        String doors = "room a;room b;" + "door a b;".repeat(10);
        houseFault(doors + "door $", 6, doors.length());
        String words = seven.substring(0, seven.indexOf("person"));
        houseFault(words + "word 1", 6, words.length());
        String people = "room a;person b in a;person c in a;person d in a;person e in a;person f in a;";
        houseFault(people + "person $", 6, people.length());
    }

    private static void promise11() {
        Check.at("11");
        DoorTongue x = new DoorTongue();
        Check.good(x, "days(0)", x.days(0), 0);
        Check.good(x, "live(0) of no STEPS", x.live(0), 0);
        x = Check.with(PLAIN);
        String all = "close p 0 slam;open q 1;go r 2;forget p;any;when in p a;when open 1;when heard q<8;end;end;"
            + "end;loop 1;loop 99;loop 2;stop;end;end;end;";
        Check.good(x, "days()", Check.days(x, all), 12);
        Check.bad(x, "days(1) of an empty tape", x.days(1), 1);
        Check.good(x, "days()", Check.days(x, "when heard p > 0;end;when heard p = 3;end;"), 2);
        for (int i = 0; i < 16; i++) {
            x.feed(0x20202020, 0x20202020, 0x20202020, 0x20202020, 0x20202020);
        }
        Check.bad(x, "days(301)", x.days(301), 1);
        Check.bad(x, "days(-1)", x.days(-1), 1);
        Check.good(x, "days(300)", x.days(300), 0);
        Check.bad(x, "days(20) behind it", x.days(20), 1);
        Check.days(x, "any;any;");
        Check.bad(x, "days()", Check.days(x, "any"), 9);
        Check.due("an empty tape behind a FAULT", x.feed(0, 0, 0, 0, 0), 20);
        x.days(20);
        Check.good(x, "live(0) of the old ones", x.live(0), 2);
        StringBuilder thirty = new StringBuilder();
        for (int i = 0; i < 30; i++) {
            thirty.append(i < 10 ? "loop 2;end;" : "any;");
        }
        Check.good(x, "days()", Check.days(x, thirty.toString()), 30);
        daysFault(thirty + "any;", 6, thirty.length());
        daysFault(thirty + "go", 6, thirty.length());
        daysFault(thirty + "end;", 2, thirty.length());
        String deep = "loop 1;loop 1;when open 0;";
        daysFault(deep + "loop 1;", 7, deep.length());
        daysFault(deep + "any;when", 7, deep.length() + 4);
        daysFault(deep + thirty.substring(110) + "any;any;any;any;any;any;any;when", 6,
            deep.length() + thirty.length() - 110 + 28);
    }

    private static void daysFault(String text, int kind, int place) {
        DoorTongue x = Check.with(PLAIN);
        Check.bad(x, "days(" + text + ")", Check.days(x, text), 9);
        Check.due("fault(0) of " + text, x.fault(0), kind);
        Check.due("fault(1) of " + text, x.fault(1), place);
    }

    private static void promise11Faults() {
        Check.at("11, FAULTS");
        daysFault("any;#", 1, 4);
        daysFault("close p 00000 slam;", 1, 8);
        daysFault("any", 2, 3);
        daysFault("room a;", 2, 0);
        daysFault("any;in p a;", 2, 4);
        daysFault("end;", 2, 0);
        daysFault("loop 1;end;end;", 2, 11);
        daysFault("loop 1;end", 2, 10);
        daysFault("loop 1;any;", 2, 11);
        daysFault("close s 0 slam;", 3, 6);
        daysFault("close a 0 slam;", 3, 6);
        daysFault("close slam 0 slam;", 2, 6);
        daysFault("close abcdefghi 0 slam;", 2, 6);
        daysFault("close p 3 slam;", 4, 8);
        daysFault("close p slam;", 2, 8);
        daysFault("close p 0;", 2, 9);
        daysFault("close p 0 open;", 2, 10);
        daysFault("open p 9999;", 4, 7);
        daysFault("open 0;", 2, 5);
        daysFault("go p 2 slam;", 2, 7);
        daysFault("forget;", 2, 6);
        daysFault("any p;", 2, 4);
        daysFault("when close;", 2, 5);
        daysFault("when in q p;", 3, 10);
        daysFault("when in a a;", 3, 8);
        daysFault("when in p 0;", 2, 10);
        daysFault("when open 3;", 4, 10);
        daysFault("when open p;", 2, 10);
        daysFault("when heard p 3;", 2, 13);
        daysFault("when heard p ; 3;", 2, 13);
        daysFault("when heard p < 9;", 4, 15);
        daysFault("when heard p < ;", 2, 15);
        daysFault("when heard p <> 1;", 2, 14);
        daysFault("loop 0;end;", 4, 5);
        daysFault("loop 100;end;", 4, 5);
        daysFault("loop;end;", 2, 4);
        DoorTongue x = new DoorTongue();
        Check.bad(x, "days() without DOORS", Check.days(x, "when open 0;end;"), 9);
        Check.due("fault(0)", x.fault(0), 4);
        Check.due("fault(1)", x.fault(1), 10);
    }

    private static void promise12() {
        Check.at("12");
        DoorTongue x = Check.with(PLAIN);
        Check.due("fault(0)", x.fault(0), 0);
        Check.due("fault(1)", x.fault(1), -1);
        Check.days(x, "any;zzz");
        Check.due("fault(0)", x.fault(0), 2);
        Check.due("fault(1)", x.fault(1), 4);
        Check.due("fault(2)", x.fault(2), -1);
        Check.due("fault(-1)", x.fault(-1), -1);
        Check.due("STATUS behind fault()", x.status(), 9);
        x.days(5);
        Check.due("fault(0) behind a STATUS of 1", x.fault(0), 2);
        x.days(0);
        Check.due("fault(0)", x.fault(0), 0);
        Check.due("fault(1)", x.fault(1), -1);
    }

    private static void promise13and14() {
        Check.at("13, 14");
        DoorTongue x = Check.with(PLAIN);
        int[] told = {4, 3, 4, 3, 8, 5, 0};
        for (int i = 0; i < 7; i++) {
            Check.good(x, "told(" + i + ")", x.told(i), told[i]);
        }
        Check.bad(x, "told(7)", x.told(7), 1);
        Check.bad(x, "told(-1)", x.told(-1), 1);
        x.close(0, 2, 3);
        x.close(0, 2, 1);
        Check.good(x, "told(6)", x.told(6), 2);
        Check.good(x, "told(5)", x.told(5), 1);
        int[][] doors = {{0, 1, 2, 1}, {1, 2, 1, 0}, {0, 2, 0, 0}};
        for (int d = 0; d < 3; d++) {
            for (int w = 0; w < 4; w++) {
                Check.good(x, "door(" + d + ", " + w + ")", x.door(d, w), doors[d][w]);
            }
        }
        Check.bad(x, "door(3, 0)", x.door(3, 0), 1);
        Check.bad(x, "door(-1, 0)", x.door(-1, 0), 1);
        Check.bad(x, "door(0, 4)", x.door(0, 4), 1);
        Check.bad(x, "door(0, -1)", x.door(0, -1), 1);
    }

    private static void promise15to18() {
        Check.at("15 to 18");
        DoorTongue x = Check.with(PLAIN);
        Check.good(x, "says(0)", x.says(0), 1);
        Check.good(x, "says(3)", x.says(3), 2);
        Check.bad(x, "says(4)", x.says(4), 1);
        Check.bad(x, "says(-1)", x.says(-1), 1);
        Check.good(x, "saysAt(3, 0)", x.saysAt(3, 0), 1);
        Check.good(x, "saysAt(3, 1)", x.saysAt(3, 1), 3);
        Check.bad(x, "saysAt(3, 2)", x.saysAt(3, 2), 6);
        Check.bad(x, "saysAt(3, BIG)", x.saysAt(3, BIG), 6);
        Check.bad(x, "saysAt(3, -1)", x.saysAt(3, -1), 1);
        Check.bad(x, "saysAt(4, 0)", x.saysAt(4, 0), 1);
        int[][] people = {{0, 0, 7, 0}, {1, 2, 1, 0}, {2, 5, 0, 0}};
        for (int p = 0; p < 3; p++) {
            for (int w = 0; w < 4; w++) {
                Check.good(x, "person(" + p + ", " + w + ")", x.person(p, w), people[p][w]);
            }
        }
        Check.bad(x, "person(3, 0)", x.person(3, 0), 1);
        Check.bad(x, "person(-1, 0)", x.person(-1, 0), 1);
        Check.bad(x, "person(0, 4)", x.person(0, 4), 1);
        Check.bad(x, "person(0, -1)", x.person(0, -1), 1);
        Check.bad(x, "heardAt(1, 0)", x.heardAt(1, 0), 6);
        x.close(0, 0, 2);
        Check.good(x, "person(1, 3)", x.person(1, 3), 1);
        Check.good(x, "heardAt(1, 0)", x.heardAt(1, 0), 2);
        Check.bad(x, "heardAt(1, 1)", x.heardAt(1, 1), 6);
        Check.bad(x, "heardAt(1, -1)", x.heardAt(1, -1), 1);
        Check.bad(x, "heardAt(3, 0)", x.heardAt(3, 0), 1);
    }

    private static void doings() {
        promise19();
        promise19Eight();
        promise20and21();
        promise22and23();
        promise24();
        promise25to28();
    }

    private static void promise19() {
        Check.at("19");
        DoorTongue x = Check.with(PLAIN);
        Check.good(x, "close(0, 0, 3)", x.close(0, 0, 3), 0);
        Check.good(x, "told(5) behind an ajar", x.told(5), 5);
        Check.good(x, "told(6)", x.told(6), 1);
        Check.good(x, "close(0, 0, 0)", x.close(0, 0, 0), 6);
        Check.good(x, "told(5)", x.told(5), 4);
        Check.heardRow(x, 0);
        Check.heardRow(x, 1, 0);
        Check.heardRow(x, 2, 0);
        Check.bad(x, "close(0, 0, 0) of what is shut", x.close(0, 0, 0), 7);
        Check.bad(x, "close(1, 2, 0) from elsewhere", x.close(1, 2, 0), 7);
        Check.bad(x, "close(3, 0, 0)", x.close(3, 0, 0), 1);
        Check.bad(x, "close(-1, 0, 0)", x.close(-1, 0, 0), 1);
        Check.bad(x, "close(0, 3, 0)", x.close(0, 3, 0), 1);
        Check.bad(x, "close(0, -1, 0)", x.close(0, -1, 0), 1);
        Check.bad(x, "close(0, 0, 4)", x.close(0, 0, 4), 1);
        Check.bad(x, "close(0, 0, -1)", x.close(0, 0, -1), 1);
        Check.good(x, "told(6)", x.told(6), 2);
        Check.good(x, "close(0, 2, 2) is HEARD by 1 of DEAF 2 no more", x.close(0, 2, 2), 0);
        x = Check.with(PLAIN);
        Check.good(x, "close(1, 0, 2): by his neighbour, not by himself", x.close(1, 0, 2), 1);
    }

    private static void promise19Eight() {
        DoorTongue x = Check.with(PAIR);
        int[] sounds = {0, 1, 2, 3, 3, 2, 1, 0, 3, 1};
        for (int i = 0; i < 10; i++) {
            Check.good(x, "close(0, 0, " + sounds[i] + ")", x.close(0, 0, sounds[i]), 2);
            if (i == 7) {
                Check.heardRow(x, 1, 0, 1, 2, 3, 3, 2, 1, 0);
            }
            if (sounds[i] != 3) {
                Check.good(x, "open(1, 0)", x.open(1, 0), 1);
            }
        }
        Check.heardRow(x, 1, 2, 3, 3, 2, 1, 0, 3, 1);
        Check.heardRow(x, 0);
        Check.good(x, "told(6)", x.told(6), 10);
    }

    private static void promise20and21() {
        Check.at("20, 21");
        DoorTongue x = Check.with(PLAIN);
        Check.good(x, "open(2, 1)", x.open(2, 1), 3);
        Check.good(x, "told(6): OPENED is not HEARD", x.told(6), 0);
        Check.heardRow(x, 1);
        Check.bad(x, "open(2, 1)", x.open(2, 1), 7);
        x.close(2, 1, 1);
        Check.bad(x, "open(0, 1) from elsewhere", x.open(0, 1), 7);
        Check.bad(x, "open(0, 0) of what is OPEN", x.open(0, 0), 7);
        Check.bad(x, "open(3, 0)", x.open(3, 0), 1);
        Check.bad(x, "open(0, 3)", x.open(0, 3), 1);
        Check.bad(x, "open(-1, -1)", x.open(-1, -1), 1);
        Check.good(x, "go(0, 0)", x.go(0, 0), 1);
        Check.good(x, "person(0, 0)", x.person(0, 0), 1);
        Check.good(x, "go(0, 0) back", x.go(0, 0), 0);
        Check.bad(x, "go(1, 2) from elsewhere", x.go(1, 2), 7);
        Check.bad(x, "go(1, 1) of what is shut", x.go(1, 1), 7);
        Check.bad(x, "go(3, 0)", x.go(3, 0), 1);
        Check.bad(x, "go(0, 3)", x.go(0, 3), 1);
        Check.bad(x, "go(LOW, BIG)", x.go(LOW, BIG), 1);
        Check.good(x, "go(2, 2)", x.go(2, 2), 0);
    }

    private static void promise22and23() {
        Check.at("22, 23");
        DoorTongue x = Check.with(PAIR + "word w says slam;");
        Check.bad(x, "forget(1)", x.forget(1), 7);
        x.close(0, 0, 3);
        x.close(0, 0, 2);
        Check.good(x, "forget(1)", x.forget(1), 2);
        Check.good(x, "person(1, 3)", x.person(1, 3), 0);
        Check.good(x, "told(6)", x.told(6), 2);
        Check.bad(x, "forget(1)", x.forget(1), 7);
        Check.bad(x, "forget(2)", x.forget(2), 1);
        Check.bad(x, "forget(-1)", x.forget(-1), 1);
        Check.bad(x, "teach(0, 0, false)", x.teach(0, 0, false), 7);
        Check.good(x, "teach(0, 0, true)", x.teach(0, 0, true));
        Check.good(x, "person(0, 2)", x.person(0, 2), 1);
        Check.good(x, "person(1, 2)", x.person(1, 2), 0);
        Check.bad(x, "teach(0, 0, true)", x.teach(0, 0, true), 7);
        Check.good(x, "teach(0, 0, false)", x.teach(0, 0, false));
        Check.good(x, "person(0, 2)", x.person(0, 2), 0);
        Check.bad(x, "teach(2, 0, true)", x.teach(2, 0, true), 1);
        Check.bad(x, "teach(0, 1, true)", x.teach(0, 1, true), 1);
        Check.bad(x, "teach(0, -1, false)", x.teach(0, -1, false), 1);
        Check.bad(x, "teach(-1, 0, false)", x.teach(-1, 0, false), 1);
    }

    private static void promise24() {
        Check.at("24");
        DoorTongue x = Check.with(PLAIN);
        Check.bad(x, "coin(0, 1)", x.coin(0, 1), 2);
        Check.bad(x, "coin(4, 1)", x.coin(4, 1), 1);
        Check.bad(x, "coin(0, 0)", x.coin(0, 0), 1);
        Check.bad(x, "coin(0, 5)", x.coin(0, 5), 1);
        Check.fill(x, 0, 0, 2, 2, 3, 0);
        Check.bad(x, "coin(0, 2): maybe says so", x.coin(0, 2), 7);
        Check.good(x, "coin(0, 4)", x.coin(0, 4), 4);
        Check.good(x, "coin(0, 3)", x.coin(0, 3), 5);
        Check.good(x, "says(5)", x.says(5), 3);
        Check.good(x, "saysAt(5, 2)", x.saysAt(5, 2), 2);
        Check.good(x, "saysAt(4, 3)", x.saysAt(4, 3), 3);
        Check.good(x, "person(0, 2): nobody KNOWS it", x.person(0, 2), 7);
        Check.bad(x, "coin(0, 4)", x.coin(0, 4), 7);
        x.tray(0, 3, 2);
        x.write(0, 0, 1L << 32);
        Check.bad(x, "coin(0, 3)", x.coin(0, 3), 3);
        Check.bad(x, "coin(0, 1) of 2 to the 32nd", x.coin(0, 1), 5);
        x.write(0, 0, -1);
        Check.bad(x, "coin(0, 1) of -1", x.coin(0, 1), 5);
        x.write(0, 0, 4);
        Check.bad(x, "coin(0, 2) of 4", x.coin(0, 2), 5);
        x.write(0, 0, 3);
        Check.good(x, "coin(0, 1)", x.coin(0, 1), 6);
        x.write(0, 0, 4);
        Check.bad(x, "coin(0, 1): an eighth", x.coin(0, 1), 4);
        Check.bad(x, "coin(0, 3): too few", x.coin(0, 3), 3);
        Check.good(x, "told(2)", x.told(2), 7);
    }

    private static void promise25to28() {
        Check.at("25 to 28");
        DoorTongue x = Check.with(PLAIN);
        x.close(0, 0, 0);
        Check.bad(x, "come(4)", x.come(4), 1);
        Check.bad(x, "come(-1)", x.come(-1), 1);
        Check.good(x, "come(3)", x.come(3), 3);
        Check.good(x, "come(1)", x.come(1), 4);
        Check.bad(x, "come(1)", x.come(1), 4);
        Check.bad(x, "come(4)", x.come(4), 1);
        int[] want = {1, 0, 0, 0};
        for (int w = 0; w < 4; w++) {
            Check.good(x, "person(4, " + w + ")", x.person(4, w), want[w]);
        }
        Check.good(x, "told(3)", x.told(3), 5);
        Check.good(x, "line(1, 9)", x.line(1, 9), 1);
        Check.good(x, "line(1, 0)", x.line(1, 0), 9);
        Check.good(x, "door(1, 2)", x.door(1, 2), 0);
        Check.bad(x, "line(1, 10)", x.line(1, 10), 1);
        Check.bad(x, "line(1, -1)", x.line(1, -1), 1);
        Check.bad(x, "line(3, 1)", x.line(3, 1), 1);
        Check.bad(x, "line(-1, 1)", x.line(-1, 1), 1);
        Check.good(x, "deafen(2, 9)", x.deafen(2, 9), 5);
        Check.good(x, "deafen(2, 0)", x.deafen(2, 0), 9);
        Check.good(x, "person(2, 1)", x.person(2, 1), 0);
        Check.bad(x, "deafen(2, 10)", x.deafen(2, 10), 1);
        Check.bad(x, "deafen(2, -1)", x.deafen(2, -1), 1);
        Check.bad(x, "deafen(5, 1)", x.deafen(5, 1), 1);
        Check.good(x, "rule(16)", x.rule(16));
        Check.good(x, "told(4)", x.told(4), 16);
        Check.good(x, "rule(0)", x.rule(0));
        Check.bad(x, "rule(17)", x.rule(17), 1);
        Check.bad(x, "rule(-1)", x.rule(-1), 1);
        Check.good(x, "told(4)", x.told(4), 0);
    }

    private static void hearing() {
        promise29();
        promise30and31();
        promise32();
        promise33();
    }

    private static void promise29() {
        Check.at("29");
        DoorTongue x = Check.with(PLAIN);
        int[][] want = {{0, 1, 1, -1}, {1, 0, 2, -1}, {1, 2, 0, -1}, {-1, -1, -1, 0}};
        for (int r = 0; r < 4; r++) {
            for (int s = 0; s < 4; s++) {
                if (want[r][s] >= 0) {
                    Check.good(x, "loss(" + r + ", " + s + ")", x.loss(r, s), want[r][s]);
                } else {
                    Check.bad(x, "loss(" + r + ", " + s + ")", x.loss(r, s), 6);
                }
            }
        }
        x.close(0, 0, 1);
        Check.good(x, "loss(0, 1): a shut DOOR of BAIZE 2, or round", x.loss(0, 1), 4);
        x.line(0, 0);
        Check.good(x, "loss(0, 1)", x.loss(0, 1), 2);
        x.line(0, 9);
        Check.good(x, "loss(0, 1)", x.loss(0, 1), 4);
        Check.bad(x, "loss(4, 0)", x.loss(4, 0), 1);
        Check.bad(x, "loss(0, 4)", x.loss(0, 4), 1);
        Check.bad(x, "loss(-1, 0)", x.loss(-1, 0), 1);
    }

    private static void promise30and31() {
        Check.at("30, 31");
        DoorTongue x = Check.with(PLAIN);
        int[][] want = {{7, 3, 3, 1}, {7, 7, 3, 0}, {7, 7, 1, 1}};
        for (int d = 0; d < 3; d++) {
            for (int s = 0; s < 4; s++) {
                Check.good(x, "hearers(" + d + ", " + s + ")", x.hearers(d, s), want[d][s]);
            }
        }
        Check.bad(x, "hearers(3, 0)", x.hearers(3, 0), 1);
        Check.bad(x, "hearers(0, 4)", x.hearers(0, 4), 1);
        Check.bad(x, "hearers(-1, -1)", x.hearers(-1, -1), 1);
        for (int p = 0; p < 3; p++) {
            for (int s = 0; s < 4; s++) {
                int set = 0;
                for (int d = 0; d < 3; d++) {
                    set |= (want[d][s] >> p & 1) << d;
                }
                Check.good(x, "hears(" + p + ", " + s + ")", x.hears(p, s), set);
            }
        }
        Check.bad(x, "hears(3, 0)", x.hears(3, 0), 1);
        Check.bad(x, "hears(0, 4)", x.hears(0, 4), 1);
        Check.bad(x, "hears(-1, 0)", x.hears(-1, 0), 1);
    }

    private static void promise32() {
        Check.at("32");
        DoorTongue x = Check.with("room a;room b;room c;door a b open;door b c baize 6;"
            + "person p in c;person q in c deaf 8;person r in a;");
        Check.good(x, "hush(0, 0, 0): 9 less 8", x.hush(0, 0, 0), 1);
        Check.good(x, "hush(0, 0, 1): heard not even so", x.hush(0, 0, 1), 0);
        Check.bad(x, "hush(0, 0, 2): at the DOOR", x.hush(0, 0, 2), 6);
        x.line(1, 0);
        Check.good(x, "hush(0, 0, 0): 9 less 2", x.hush(0, 0, 0), 7);
        x.line(0, 9);
        Check.good(x, "hush(1, 0, 2): OPEN DOORS hush nothing", x.hearers(1, 0), 7);
        Check.bad(x, "hush(1, 0, 2)", x.hush(1, 0, 2), 6);
        x.line(1, 9);
        x.come(2);
        Check.good(x, "hush(0, 0, 3) by 9 at most each", x.hush(0, 0, 3), 0);
        Check.bad(x, "hush(2, 0, 0)", x.hush(2, 0, 0), 1);
        Check.bad(x, "hush(0, 4, 0)", x.hush(0, 4, 0), 1);
        Check.bad(x, "hush(0, 0, 4)", x.hush(0, 0, 4), 1);
        Check.bad(x, "hush(-1, -1, -1)", x.hush(-1, -1, -1), 1);
    }

    private static void promise33() {
        Check.at("33");
        DoorTongue x = Check.with("room a;room b;room c;room d;door c d open;door a b;door b c open;door a b open;"
            + "person p in a;person q in c;person r in a;person s in d deaf 8;");
        Check.good(x, "secret(0, 1, 2, 3)", x.secret(0, 1, 2, 3), 0);
        Check.bad(x, "secret(0, 1, 2, 2): HEARD round by the other DOORS", x.secret(0, 1, 2, 2), 6);
        Check.good(x, "secret(0, 1, 3, 2)", x.secret(0, 1, 3, 2), 0);
        Check.bad(x, "secret(0, 3, 1, 2)", x.secret(0, 3, 1, 2), 6);
        Check.good(x, "secret(1, 2, 3, 3)", x.secret(1, 2, 3, 3), 3);
        x.close(0, 3, 3);
        x.close(0, 3, 0);
        Check.bad(x, "secret(0, 1, 2, 3): he can't come to DOOR 0", x.secret(0, 1, 2, 3), 6);
        Check.bad(x, "secret(0, 0, 1, 0)", x.secret(0, 0, 1, 0), 1);
        Check.bad(x, "secret(0, 1, 0, 0)", x.secret(0, 1, 0, 0), 1);
        Check.bad(x, "secret(0, 1, 1, 0)", x.secret(0, 1, 1, 0), 1);
        Check.bad(x, "secret(0, 1, 2, 4)", x.secret(0, 1, 2, 4), 1);
        Check.bad(x, "secret(4, 1, 2, 0)", x.secret(4, 1, 2, 0), 1);
        Check.bad(x, "secret(0, 4, 2, 0)", x.secret(0, 4, 2, 0), 1);
        Check.bad(x, "secret(0, 1, -1, 0)", x.secret(0, 1, -1, 0), 1);
    }

    private static void meanings() {
        promise34to36();
        promise37and38();
        promise39and40();
        promise41();
    }

    private static final String SPEECH = "room a;room b;door a b open;word x says ajar;word y says ajar ajar;"
        + "word z says slam latch;word v says latch;person p in a knows;person q in b knows y x z;";

    private static void promise34to36() {
        Check.at("34 to 36");
        DoorTongue x = Check.with(SPEECH);
        Check.good(x, "readings(1) of nothing", x.readings(1), 1);
        Check.good(x, "first(1) of nothing", x.first(1), 0);
        Check.bad(x, "firstAt(1, 0) of nothing", x.firstAt(1, 0), 6);
        Check.good(x, "readings(0) of who KNOWS nothing", x.readings(0), 1);
        for (int i = 0; i < 3; i++) {
            x.close(0, 0, 3);
        }
        Check.good(x, "readings(1)", x.readings(1), 3);
        Check.good(x, "first(1)", x.first(1), 3);
        Check.good(x, "firstAt(1, 2)", x.firstAt(1, 2), 0);
        x.close(0, 0, 0);
        Check.good(x, "readings(1)", x.readings(1), 0);
        Check.bad(x, "first(1)", x.first(1), 6);
        Check.bad(x, "firstAt(1, 0)", x.firstAt(1, 0), 6);
        x.open(0, 0);
        x.close(0, 0, 2);
        Check.good(x, "readings(1)", x.readings(1), 3);
        Check.good(x, "first(1)", x.first(1), 4);
        Check.good(x, "firstAt(1, 3)", x.firstAt(1, 3), 2);
        Check.bad(x, "firstAt(1, 4)", x.firstAt(1, 4), 6);
        Check.bad(x, "firstAt(1, -1)", x.firstAt(1, -1), 1);
        Check.bad(x, "firstAt(2, 0)", x.firstAt(2, 0), 1);
        Check.bad(x, "first(2)", x.first(2), 1);
        Check.bad(x, "readings(2)", x.readings(2), 1);
        Check.bad(x, "readings(-1)", x.readings(-1), 1);
        x.teach(1, 0, false);
        Check.good(x, "readings(1)", x.readings(1), 0);
        x = Check.with(SPEECH);
        for (int i = 0; i < 3; i++) {
            x.close(0, 0, 3);
        }
        x.readings(0);
        Check.good(x, "firstAt(1, 0) ahead of first(1)", x.firstAt(1, 0), 0);
        x.readings(0);
        Check.good(x, "first(1) ahead of readings(1)", x.first(1), 3);
        x = Check.with("room a;room b;door a b open;word u says latch;word x says slam latch;word y says slam;"
            + "word z says latch ajar;person p in a;person q in b knows u x y z;");
        int[] row = {0, 2, 3};
        for (int sound : row) {
            x.close(0, 0, sound);
            x.open(0, 0);
        }
        Check.good(x, "first(1): the way by the lower WORD leads nowhere", x.first(1), 2);
        Check.good(x, "firstAt(1, 0)", x.firstAt(1, 0), 2);
        Check.good(x, "firstAt(1, 1)", x.firstAt(1, 1), 3);
    }

    private static void promise37and38() {
        Check.at("37, 38");
        DoorTongue x = Check.with(SPEECH);
        Check.bad(x, "means(1, 0, 0)", x.means(1, 0, 0), 2);
        Check.bad(x, "unsaid(1, 0, 0)", x.unsaid(1, 0, 0), 2);
        int[] row = new int[21];
        java.util.Arrays.fill(row, 3);
        Check.fill(x, 0, row);
        Check.good(x, "means(1, 0, 20)", x.means(1, 0, 20), 10946);
        Check.good(x, "means(1, 0, 0)", x.means(1, 0, 0), 1);
        Check.good(x, "means(0, 0, 1)", x.means(0, 0, 1), 0);
        Check.bad(x, "means(1, 0, 21)", x.means(1, 0, 21), 1);
        Check.bad(x, "means(1, 0, -1)", x.means(1, 0, -1), 1);
        Check.bad(x, "means(1, 4, 1)", x.means(1, 4, 1), 1);
        Check.bad(x, "means(2, 0, 1)", x.means(2, 0, 1), 1);
        Check.fill(x, 0, 0, 2, 4);
        Check.good(x, "means(1, 0, 2)", x.means(1, 0, 2), 1);
        Check.bad(x, "means(1, 0, 3)", x.means(1, 0, 3), 5);
        Check.bad(x, "means(1, 0, 4)", x.means(1, 0, 4), 3);
        Check.bad(x, "unsaid(1, 0, 3): no such WORD", x.unsaid(1, 0, 3), 5);
        Check.good(x, "unsaid(1, 0, 2): ajar slam latch", x.unsaid(1, 0, 2), 1);
        Check.fill(x, 0, 1, 3, 0, 0, 1, 1);
        Check.good(x, "unsaid(1, 0, 1)", x.unsaid(1, 0, 1), 2);
        Check.good(x, "unsaid(1, 0, 2): with a WORD that he does not know", x.unsaid(1, 0, 2), 0);
        Check.good(x, "unsaid(1, 0, 0)", x.unsaid(1, 0, 0), 1);
        Check.bad(x, "unsaid(1, 0, 7)", x.unsaid(1, 0, 7), 1);
        Check.bad(x, "unsaid(1, 0, -1)", x.unsaid(1, 0, -1), 1);
        Check.bad(x, "unsaid(2, 0, 1)", x.unsaid(2, 0, 1), 1);
        Check.bad(x, "unsaid(1, -1, 1)", x.unsaid(1, -1, 1), 1);
        x.write(0, 0, -1);
        Check.bad(x, "unsaid(1, 0, 6)", x.unsaid(1, 0, 6), 5);
        Check.bad(x, "means(1, 0, 1)", x.means(1, 0, 1), 5);
        x = Check.with("room a;word x says ajar ajar ajar ajar;word v says ajar;word w says ajar ajar;"
            + "word u says ajar ajar ajar;person p in a knows x u v w;");
        Check.fill(x, 1, 0, 0, 0, 0, 0, 0);
        Check.good(x, "unsaid() of 24 SOUNDS", x.unsaid(0, 1, 6), 3919944);
    }

    private static void promise39and40() {
        Check.at("39, 40");
        DoorTongue x = Check.with(SPEECH);
        Check.bad(x, "doubt(0)", x.doubt(0), 6);
        Check.bad(x, "doubtAt(0, 0)", x.doubtAt(0, 0), 6);
        Check.good(x, "doubt(1)", x.doubt(1), 2);
        Check.good(x, "doubtAt(1, 0)", x.doubtAt(1, 0), 3);
        Check.good(x, "doubtAt(1, 1)", x.doubtAt(1, 1), 3);
        Check.bad(x, "doubtAt(1, 2)", x.doubtAt(1, 2), 6);
        Check.bad(x, "doubtAt(1, -1)", x.doubtAt(1, -1), 1);
        Check.bad(x, "doubtAt(2, 0)", x.doubtAt(2, 0), 1);
        Check.bad(x, "doubt(2)", x.doubt(2), 1);
        Check.bad(x, "doubt(-1)", x.doubt(-1), 1);
        // ab, abc and cab, c: abcab, abc ab or ab cab; before it nothing.
        x = Check.with("room a;word x says slam shut;word y says slam shut latch;word z says latch slam shut;"
            + "person p in a knows x y z;");
        Check.good(x, "doubt(0)", x.doubt(0), 5);
        int[] row = {0, 1, 2, 0, 1};
        for (int k = 0; k < 5; k++) {
            Check.good(x, "doubtAt(0, " + k + ")", x.doubtAt(0, k), row[k]);
        }
        x = Check.with("room a;word x says slam slam shut;word y says shut slam;person p in a knows x y;");
        Check.bad(x, "doubt(0)", x.doubt(0), 6);
        doubtOfSeven();
    }

    /** A row of seven is asked for, one of eight is not. */
    private static void doubtOfSeven() {
        DoorTongue x = Check.with("room a;word x says slam slam slam shut;word y says shut shut latch;"
            + "word z says slam slam slam;word v says shut shut shut latch;person p in a knows x y z v;");
        Check.good(x, "doubt(0)", x.doubt(0), 7);
        int[] row = {0, 0, 0, 1, 1, 1, 2};
        for (int k = 0; k < 7; k++) {
            Check.good(x, "doubtAt(0, " + k + ")", x.doubtAt(0, k), row[k]);
        }
        Check.bad(x, "doubtAt(0, 7)", x.doubtAt(0, 7), 6);
        // slam shut latch ajar | slam shut latch ajar, the other ones crossing: 8 are too many.
        x = Check.with("room a;word x says slam shut latch ajar;word y says slam slam shut shut;"
            + "word z says slam shut latch;word v says ajar slam slam shut;word u says shut;"
            + "person p in a knows x y z v;");
        Check.bad(x, "doubt(0)", x.doubt(0), 6);
        x.teach(0, 4, true);
        Check.bad(x, "doubt(0): the row of 8 is not asked", x.doubt(0), 6);
        Check.fill(x, 0, 0, 1, 2, 3, 0, 0, 1, 1);
        Check.good(x, "means() of the row of 8", x.means(0, 0, 8), 2);
    }

    private static void promise41() {
        Check.at("41");
        DoorTongue x = Check.with("room a;word x says ajar;word y says ajar ajar;word z says slam latch;"
            + "word v says latch;word u says slam;person p in a knows x y z;person q in a knows v u y;person r in a;");
        Check.good(x, "shared(0, 1)", x.shared(0, 1), 6);
        Check.good(x, "shared(1, 0)", x.shared(1, 0), 2);
        Check.good(x, "shared(0, 2)", x.shared(0, 2), 0);
        Check.good(x, "shared(2, 0)", x.shared(2, 0), 0);
        Check.bad(x, "shared(0, 0)", x.shared(0, 0), 1);
        Check.bad(x, "shared(0, 3)", x.shared(0, 3), 1);
        Check.bad(x, "shared(-1, 0)", x.shared(-1, 0), 1);
    }

    private static void ways() {
        promise42to44();
        promise45and46();
        promise47();
        promise48();
    }

    private static void promise42to44() {
        Check.at("42 to 44");
        // Two ways as short from a to d: by b and by c; a third one, by shut DOORS, shorter.
        DoorTongue x = Check.with("room a;room b;room c;room d;room e;door d c open;door c a open;door a b open;"
            + "door b d open;door a d;person p in a;");
        Check.good(x, "far(0, 3)", x.far(0, 3), 2);
        Check.good(x, "way(0, 3, 0)", x.way(0, 3, 0), 0);
        Check.good(x, "way(0, 3, 1)", x.way(0, 3, 1), 1);
        Check.good(x, "way(0, 3, 2)", x.way(0, 3, 2), 3);
        Check.bad(x, "way(0, 3, 3)", x.way(0, 3, 3), 6);
        Check.bad(x, "way(0, 3, -1)", x.way(0, 3, -1), 1);
        Check.good(x, "way(1, 2, 1)", x.way(1, 2, 1), 0);
        Check.good(x, "far(2, 2)", x.far(2, 2), 0);
        Check.good(x, "way(2, 2, 0)", x.way(2, 2, 0), 2);
        Check.bad(x, "way(2, 2, 1)", x.way(2, 2, 1), 6);
        Check.bad(x, "far(0, 4)", x.far(0, 4), 6);
        Check.bad(x, "way(0, 4, 0)", x.way(0, 4, 0), 6);
        Check.bad(x, "far(0, 5)", x.far(0, 5), 1);
        Check.bad(x, "far(5, 0)", x.far(5, 0), 1);
        Check.bad(x, "way(-1, 0, 0)", x.way(-1, 0, 0), 1);
        Check.good(x, "part(0)", x.part(0), 15);
        Check.good(x, "part(4)", x.part(4), 16);
        x.close(0, 1, 1);
        x.close(0, 2, 1);
        Check.good(x, "part(0)", x.part(0), 1);
        Check.good(x, "part(3)", x.part(3), 14);
        Check.bad(x, "part(5)", x.part(5), 1);
        Check.bad(x, "part(-1)", x.part(-1), 1);
    }

    private static void promise45and46() {
        Check.at("45, 46");
        DoorTongue x = Check.with("room a;room b;room c;room d;door c d open;door a b open;door b d open;door a c open;"
            + "door a d;person p in a;person q in d;person r in a;person s in b;");
        Check.good(x, "apart(0, 1)", x.apart(0, 1), 2);
        Check.good(x, "apartSet(0, 1): 0 and 1 are the least of four pairs", x.apartSet(0, 1), 3);
        Check.good(x, "apartSet(1, 0)", x.apartSet(1, 0), 3);
        Check.good(x, "apartSet(3, 0)", x.apartSet(3, 0), 3);
        Check.bad(x, "apart(0, 2): in one ROOM", x.apart(0, 2), 6);
        Check.bad(x, "apartSet(0, 2)", x.apartSet(0, 2), 6);
        x.close(0, 1, 1);
        Check.good(x, "apart(0, 1)", x.apart(0, 1), 1);
        Check.good(x, "apartSet(0, 1)", x.apartSet(0, 1), 1);
        x.close(0, 3, 1);
        Check.good(x, "apart(0, 1): they are already", x.apart(0, 1), 0);
        Check.good(x, "apartSet(0, 1)", x.apartSet(0, 1), 0);
        Check.bad(x, "apart(0, 0)", x.apart(0, 0), 1);
        Check.bad(x, "apart(0, 4)", x.apart(0, 4), 1);
        Check.bad(x, "apart(-1, 0)", x.apart(-1, 0), 1);
        Check.bad(x, "apartSet(0, 0)", x.apartSet(0, 0), 1);
        Check.bad(x, "apartSet(4, 0)", x.apartSet(4, 0), 1);
        StringBuilder ten = new StringBuilder("room a;room b;person p in a;person q in b;");
        for (int i = 0; i < 10; i++) {
            ten.append("door a b open;");
        }
        x = Check.with(ten.toString());
        Check.good(x, "apart() by all ten", x.apart(0, 1), 10);
        Check.good(x, "apartSet() of all ten", x.apartSet(0, 1), 1023);
    }

    private static void promise47() {
        Check.at("47");
        DoorTongue x = Check.with("room a;room b;room c;room d;room e;door a b;door b c open;door c d;door a d;"
            + "door a d;person p in a;person q in d;person r in c;person s in e;person t in a;");
        Check.good(x, "together(0, 1)", x.together(0, 1), 1);
        Check.good(x, "together(0, 2)", x.together(0, 2), 1);
        Check.good(x, "together(0, 4): in one ROOM", x.together(0, 4), 0);
        Check.bad(x, "together(0, 3): by none", x.together(0, 3), 6);
        Check.bad(x, "together(0, 0)", x.together(0, 0), 1);
        Check.bad(x, "together(0, 5)", x.together(0, 5), 1);
        Check.bad(x, "together(-1, 0)", x.together(-1, 0), 1);
        x = Check.with("room a;room b;room c;room d;door a b;door c d;door b c;person p in a;person q in d;");
        Check.good(x, "together(0, 1)", x.together(0, 1), 3);
        x.open(0, 0);
        Check.good(x, "together(0, 1)", x.together(0, 1), 2);
    }

    private static void promise48() {
        Check.at("48");
        DoorTongue x = Check.with(LINE);
        Check.bad(x, "culprits(0, 0)", x.culprits(0, 0), 2);
        Check.fill(x, 0, 1, 0, 2);
        Check.good(x, "culprits(0, 0)", x.culprits(0, 0), 7);
        Check.good(x, "culprits(0, 1)", x.culprits(0, 1), 3);
        Check.good(x, "culprits(0, 2)", x.culprits(0, 2), 3);
        Check.good(x, "culprits(0, 3)", x.culprits(0, 3), 0);
        Check.good(x, "told(5) is as it was", x.told(5), 7);
        Check.bad(x, "culprits(0, 4)", x.culprits(0, 4), 3);
        Check.bad(x, "culprits(0, 7)", x.culprits(0, 7), 1);
        Check.bad(x, "culprits(0, -1)", x.culprits(0, -1), 1);
        Check.bad(x, "culprits(4, 0)", x.culprits(4, 0), 1);
        Check.fill(x, 0, 0, 1, 0);
        Check.good(x, "culprits(0, 2)", x.culprits(0, 2), 3);
        Check.bad(x, "culprits(0, 3): one twice", x.culprits(0, 3), 5);
        x.write(0, 1, 3);
        Check.bad(x, "culprits(0, 2): no such DOOR", x.culprits(0, 2), 5);
        x.write(0, 1, -1);
        Check.bad(x, "culprits(0, 2)", x.culprits(0, 2), 5);
        x.close(0, 0, 1);
        Check.bad(x, "culprits(0, 1): it is shut", x.culprits(0, 1), 5);
        Check.fill(x, 0, 2);
        Check.good(x, "culprits(0, 1): 0 can't come there", x.culprits(0, 1), 2);
    }

    private static void games() {
        promise49and50();
        promise51();
        promise52();
    }

    private static void promise49and50() {
        Check.at("49, 50");
        DoorTongue x = Check.with("room a;room b;room c;door a b open;door b c open;person p in a;person q in c;");
        int[] rooms = {3, 1, 3, 1, 3};
        for (int n = 0; n <= 4; n++) {
            Check.good(x, "game(0, " + n + ")", x.game(0, n), rooms[n]);
        }
        Check.good(x, "moveOf(0, 1)", x.moveOf(0, 1), 0);
        Check.good(x, "moveOf(1, 1)", x.moveOf(1, 1), 1);
        Check.good(x, "moveOf(0, 2): all are as good", x.moveOf(0, 2), 0);
        Check.good(x, "told(5) is as it was", x.told(5), 3);
        Check.bad(x, "game(0, 5)", x.game(0, 5), 1);
        Check.bad(x, "game(0, -1)", x.game(0, -1), 1);
        Check.bad(x, "game(2, 1)", x.game(2, 1), 1);
        Check.bad(x, "moveOf(0, 0)", x.moveOf(0, 0), 1);
        Check.bad(x, "moveOf(0, 5)", x.moveOf(0, 5), 1);
        Check.bad(x, "moveOf(-1, 1)", x.moveOf(-1, 1), 1);
        x.close(0, 0, 1);
        Check.good(x, "game(0, 1)", x.game(0, 1), 1);
        Check.good(x, "moveOf(0, 1): a DOOR that does no harm comes before nothing", x.moveOf(0, 1), 1);
        Check.good(x, "game(0, 2): 1 is shut, 0 is opened", x.game(0, 2), 2);
        Check.good(x, "moveOf(0, 2)", x.moveOf(0, 2), 1);
        x.close(1, 1, 1);
        Check.good(x, "game(0, 0)", x.game(0, 0), 1);
        Check.good(x, "game(0, 2)", x.game(0, 2), 2);
        Check.good(x, "game(0, 4)", x.game(0, 4), 2);
        Check.bad(x, "moveOf(0, 3): nothing to shut", x.moveOf(0, 3), 6);
        x = Check.with("room a;person p in a;");
        Check.good(x, "game(0, 4) without DOORS", x.game(0, 4), 1);
        Check.bad(x, "moveOf(0, 4) without DOORS", x.moveOf(0, 4), 6);
    }

    private static void promise51() {
        Check.at("51");
        DoorTongue x = new DoorTongue();
        Check.galeIs(x, 1, 1, 1, 4);
        Check.galeIs(x, 2, 1, 7, 16);
        Check.galeIs(x, 12, 12, 1, 1L << 24);
        Check.galeIs(x, 0, 0, 1, 1);
        Check.galeIs(x, 0, 1, 0, 1);
        Check.galeIs(x, 5, 6, 0, 1);
        Check.galeIs(x, 12, 0, 1, 1);
        x.rule(16);
        Check.galeIs(x, 12, 12, 1, 1);
        x.rule(0);
        Check.galeIs(x, 12, 1, 0, 1);
        Check.galeIs(x, 12, 0, 1, 1);
        x.rule(1);
        Check.galeIs(x, 12, 12, 1, 1L << 48);
        x.rule(3);
        Check.galeIs(x, 3, 2, 189, 2048);
        x.rule(8);
        // 6 and more of 12 by halves: 924 and half of what is left of 4,096.
        Check.galeIs(x, 12, 6, 1255, 2048);
        Check.bad(x, "gale(13, 0)", x.gale(13, 0), 1);
        Check.bad(x, "gale(0, 13)", x.gale(0, 13), 1);
        Check.bad(x, "gale(-1, 0)", x.gale(-1, 0), 1);
        Check.bad(x, "gale(0, -1)", x.gale(0, -1), 1);
    }

    private static void promise52() {
        Check.at("52");
        DoorTongue x = Check.with(PLAIN);
        Check.bad(x, "copyRooms(0)", x.copyRooms(0), 2);
        Check.bad(x, "copyRooms(4)", x.copyRooms(4), 1);
        Check.bad(x, "copyRooms(-1)", x.copyRooms(-1), 1);
        x.tray(0, 0, 2);
        Check.bad(x, "copyRooms(0)", x.copyRooms(0), 3);
        Check.good(x, "read(0, 1)", x.read(0, 1), 0);
        for (int sort = 0; sort < 4; sort++) {
            x.tray(0, sort, 4);
            x.write(0, 3, 77);
            Check.good(x, "copyRooms(0)", x.copyRooms(0), 3);
            for (int i = 0; i < 4; i++) {
                Check.good(x, "read(0, " + i + ")", x.read(0, i), i < 3 ? i : 77);
            }
        }
    }

    private static void lives() {
        promise53();
        promise53Steps();
        promise53Most();
        promise53Anew();
        promise54();
        promise55();
    }

    /** Seed 1 draws 1833, seed 2 2236; then s is 14670 and 17891. */
    private static void promise53() {
        Check.at("53");
        DoorTongue x = Check.with("room a;room b;door a b open;door a b;person p in a;person q in b deaf 9;", "any;");
        Check.bad(x, "live(-1)", x.live(-1), 1);
        Check.bad(x, "live(10000)", x.live(10000), 1);
        Check.good(x, "live(1)", x.live(1), 1);
        Check.good(x, "told(5)", x.told(5), 3);
        Check.livedIs(x, 0, 0, 0, 0, 0);
        Check.good(x, "live(2)", x.live(2), 1);
        Check.good(x, "told(5)", x.told(5), 2);
        Check.livedIs(x, 0, 1, 1, 0, 0);
        Check.heardRow(x, 0, 0);
        Check.heardRow(x, 1);
        Check.good(x, "told(6)", x.told(6), 1);
        Check.good(x, "live(9999)", x.live(9999), 1);
        int s = (int) ((9999L * 3221 + 11449) % 65536);
        Check.good(x, "told(5)", x.told(5), 2 ^ 1 << s / 8 % 2);
        x = Check.with("room a;room b;door a b;door a b;door a b;", "any;any;any;any;any;");
        long draws = 77;
        int open = 0;
        for (int i = 0; i < 5; i++) {
            draws = (draws * 3221 + 11449) % 65536;
            open ^= 1 << draws / 8 % 3;
        }
        Check.good(x, "live(77)", x.live(77), 5);
        Check.good(x, "told(5) behind five draws", x.told(5), open);
        x = Check.with("room a;", "any;any;");
        Check.good(x, "live(0) without DOORS", x.live(0), 2);
        Check.livedIs(x, 2, 0, 0, 0, 0);
    }

    private static void promise53Steps() {
        DoorTongue x = Check.with(PLAIN, "close p 0 latch;close p 0 slam;open q 0;open q 0;go q 1;go q 0;go q 2;"
            + "forget p;forget q;close r 1 slam;close r 0 slam;open p 1;forget q;");
        Check.good(x, "live(0)", x.live(0), 13);
        // MISSED: 1 close of what is shut, 3 open, 4 go, 7 forget p, 9 shut, 10 elsewhere, 11 elsewhere, 12.
        Check.livedIs(x, 8, 1, 1, 2, 0);
        Check.good(x, "person(1, 0)", x.person(1, 0), 2);
        Check.good(x, "told(5)", x.told(5), 5);
        Check.good(x, "told(6)", x.told(6), 1);
        x = Check.with(PAIR, "loop 3;close p 0 ajar;end;when heard q = 3;close p 0 latch;end;"
            + "when heard q < 4;go p 0;end;when heard q > 4;go p 0;end;when open 0;go p 0;end;"
            + "when in p a;open p 0;end;when in p b;forget q;end;stop;any;");
        Check.good(x, "live(0)", x.live(0), 13);
        Check.livedIs(x, 0, 4, 4, 0, 0);
        Check.good(x, "told(5)", x.told(5), 1);
        Check.heardRow(x, 1, 3, 3, 3, 2);
        Check.good(x, "live(0) again", x.live(0), 14);
        Check.good(x, "told(5)", x.told(5), 1);
        Check.heardRow(x, 1, 3, 3, 3, 2, 3, 3, 3);
        Check.livedIs(x, 1, 3, 3, 2, 0);
        x = Check.with(PAIR, "loop 2;loop 3;go p 0;end;go q 0;end;");
        Check.good(x, "live(0)", x.live(0), 1 + 2 * (1 + 3 + 1));
        Check.livedIs(x, 0, 0, 0, 8, 0);
        x = Check.with(PAIR, "loop 9;go p 0;when in p b;stop;end;end;");
        Check.good(x, "live(0)", x.live(0), 4);
        Check.livedIs(x, 0, 0, 0, 1, 0);
    }

    private static void promise53Most() {
        String most = "loop 99;go p 0;go p 0;go p 0;end;go p 0;";
        DoorTongue x = Check.with(PAIR, most + "go q 0;");
        Check.good(x, "live(0) of just 300", x.live(0), 300);
        Check.livedIs(x, 0, 0, 0, 299, 0);
        x = Check.with(PAIR, most + "go q 0;go q 0;");
        Check.good(x, "live(0) of 301", x.live(0), 300);
        Check.livedIs(x, 0, 0, 0, 299, 1);
        Check.good(x, "person(1, 0)", x.person(1, 0), 0);
        x = Check.with(PAIR, most + "go q 0;stop;");
        Check.good(x, "live(0) of 300 and a stop", x.live(0), 300);
        Check.good(x, "lived(4)", x.lived(4), 1);
        x = Check.with(PAIR, most + "stop;go q 0;");
        Check.good(x, "live(0) of 299 and a stop", x.live(0), 300);
        Check.good(x, "lived(4)", x.lived(4), 0);
        x = Check.with(PAIR, most + "loop 99;end;");
        Check.good(x, "live(0) of 300 and ends", x.live(0), 300);
        Check.good(x, "lived(4)", x.lived(4), 0);
        x = Check.with(PAIR, "loop 98;go p 0;go p 0;go p 0;end;go p 0;go p 0;go p 0;loop 2;go q 0;end;");
        Check.good(x, "live(0) of 300 and once more", x.live(0), 300);
        Check.good(x, "lived(4)", x.lived(4), 1);
        x = Check.with("room a;", "loop 99;loop 99;any;end;end;");
        Check.good(x, "live(0) of loops", x.live(0), 300);
        Check.livedIs(x, 296, 0, 0, 0, 1);
        x = Check.with("room a;", "loop 99;loop 99;loop 99;end;end;end;");
        Check.good(x, "live(0) of empty loops", x.live(0), 300);
        Check.good(x, "lived(4)", x.lived(4), 1);
        x = Check.with(PAIR, "loop 99;when open 0;end;end;");
        Check.good(x, "live(0)", x.live(0), 100);
        Check.good(x, "lived(4)", x.lived(4), 0);
    }

    private static void promise53Anew() {
        DoorTongue x = Check.with(PAIR, "loop 99;close p 0 slam;go p 0;open p 0;loop 9;end;end;");
        Check.good(x, "live(0)", x.live(0), 300);
        Check.good(x, "lived(4)", x.lived(4), 1);
        x.days(0);
        Check.good(x, "live(0) of no STEPS", x.live(0), 0);
        Check.livedIs(x, 0, 0, 0, 0, 0);
    }

    private static void promise54() {
        Check.at("54");
        DoorTongue x = Check.with(PAIR, "close p 0 slam;go p 0;");
        Check.bad(x, "lived(0)", x.lived(0), 6);
        Check.bad(x, "lived(5)", x.lived(5), 1);
        x.mean(1, 1);
        Check.bad(x, "lived(0): a mean is none", x.lived(0), 6);
        x.live(0);
        Check.livedIs(x, 1, 1, 1, 0, 0);
        Check.bad(x, "lived(5)", x.lived(5), 1);
        Check.bad(x, "lived(-1)", x.lived(-1), 1);
        x.live(10000);
        x.mean(1, 20);
        Check.livedIs(x, 1, 1, 1, 0, 0);
        Check.house(x, "");
        Check.bad(x, "live(0)", x.live(0), 6);
        Check.livedIs(x, 1, 1, 1, 0, 0);
    }

    private static void promise55() {
        Check.at("55");
        DoorTongue x = Check.with("room a;room b;door a b open;door a b;person p in a;person q in b;", "any;");
        x.close(0, 0, 3);
        x.live(1);
        x.close(0, 1, 1);
        String ahead = Check.all(x);
        Check.good(x, "mean(1, 3)", x.mean(1, 3));
        Check.fraction(x, "mean(1, 3)", 4, 3);
        x.gale(0, 1);
        Check.same("mean()", Check.all(x), ahead);
        x.mean(1, 2);
        Check.fraction(x, "mean(1, 2)", 1, 1);
        x.mean(2, 1);
        Check.fraction(x, "mean(2, 1)", 0, 1);
        Check.livedIs(x, 0, 0, 0, 0, 0);
        Check.good(x, "mean(9999, 1)", x.mean(9999, 1));
        Check.good(x, "mean(9980, 20)", x.mean(9980, 20));
        Check.bad(x, "mean(9981, 20)", x.mean(9981, 20), 1);
        Check.bad(x, "mean(0, 0)", x.mean(0, 0), 1);
        Check.bad(x, "mean(0, 21)", x.mean(0, 21), 1);
        Check.bad(x, "mean(-1, 1)", x.mean(-1, 1), 1);
        Check.bad(x, "mean(10000, 1)", x.mean(10000, 1), 1);
        Check.bad(x, "mean(0, BIG)", x.mean(0, BIG), 1);
        Check.house(x, PLAIN);
        Check.bad(x, "mean(0, 1)", x.mean(0, 1), 6);
    }

    private static void marks() {
        Check.at("56, 57");
        DoorTongue x = Check.with(PLAIN, "any;any;");
        String first = Check.all(x);
        Check.good(x, "mark()", x.mark(), 1);
        x.close(0, 0, 0);
        x.rule(3);
        x.come(1);
        x.line(1, 7);
        x.deafen(1, 7);
        x.teach(2, 3, true);
        x.go(0, 2);
        coinOf(x, 3);
        String second = Check.all(x);
        Check.good(x, "mark()", x.mark(), 2);
        Check.house(x, "room z;person y in z;");
        Check.days(x, "any;forget y;any;");
        String third = Check.all(x);
        Check.good(x, "mark()", x.mark(), 3);
        Check.bad(x, "mark()", x.mark(), 4);
        Check.house(x, "");
        x.tray(2, 0, 1);
        x.rule(3);
        x.gale(1, 1);
        Check.good(x, "undo()", x.undo(), 2);
        Check.fraction(x, "the FRACTION stays", 3, 16);
        Check.good(x, "live(0)", x.live(0), 3);
        Check.good(x, "mark() in its place", x.mark(), 3);
        Check.good(x, "undo()", x.undo(), 2);
        Check.same("undo()", Check.all(x).replaceAll("/\\d+/\\d+$", ""), third.replaceAll("/\\d+/\\d+$", ""));
        Check.good(x, "undo()", x.undo(), 1);
        Check.same("undo()", Check.all(x).replaceAll("/\\d+/\\d+$", ""), second.replaceAll("/\\d+/\\d+$", ""));
        Check.good(x, "live(0)", x.live(0), 2);
        Check.good(x, "undo()", x.undo(), 0);
        Check.same("undo()", Check.all(x).replaceAll("/\\d+/\\d+$", ""), first.replaceAll("/\\d+/\\d+$", ""));
        Check.bad(x, "undo()", x.undo(), 6);
        Check.good(x, "read(2, 0): TRAYS stay", x.read(2, 0), 0);
        Check.good(x, "days() of the NAMES taken back", Check.days(x, "go p 0;when in q b;end;"), 2);
        Check.good(x, "lived(0) stays", x.lived(1) >= 0 ? 1 : 0, 1);
        daysTakenBack();
    }

    private static void daysTakenBack() {
        String days = "when heard q = 0;loop 2;close p 0 ajar;end;end;when in q b;go q 0;end;when open 0;go p 0;end;"
            + "when heard q > 1;forget q;end;";
        String others = "loop 9;any;end;when in p a;forget p;end;when heard p < 8;any;end;close q 0 latch;open p 0;"
            + "loop 8;when in q a;any;end;end;";
        DoorTongue x = Check.with(PAIR, days);
        x.mark();
        x.live(0);
        Check.livedIs(x, 0, 2, 2, 2, 0);
        for (int i = 0; i < 3; i++) {
            Check.days(x, others);
            Check.good(x, "live(1) of others", x.live(1) > 9 ? 1 : 0, 1);
        }
        Check.good(x, "undo()", x.undo(), 0);
        Check.good(x, "live(0) of the DAYS taken back", x.live(0), 10);
        Check.livedIs(x, 0, 2, 2, 2, 0);
        Check.good(x, "person(0, 0)", x.person(0, 0), 1);
        Check.good(x, "person(1, 0)", x.person(1, 0), 0);
        Check.good(x, "live(0) again", x.live(0), 9);
        Check.livedIs(x, 0, 2, 2, 1, 0);
    }
}
