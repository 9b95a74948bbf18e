import java.util.Arrays;
import java.util.Set;
import java.util.TreeSet;

/** What the tests share: counting what is wrong, and handing texts to a DoorTongue. */
final class Check {
    private static int wrong = 0;
    private static int asked = 0;
    private static String where = "";
    private static final Set<String> REFUSED = new TreeSet<>();

    /** The words of the text that are no NAMES. */
    static final String[] RESERVED = ("odds room door baize open word says slam shut latch ajar person in deaf knows "
        + "close go forget any when heard loop end stop").split(" ");

    private Check() {
    }

    static void at(String place) {
        where = place;
    }

    static int asked() {
        return asked;
    }

    /** Whether bad() has asked for that STATUS of that call. */
    static boolean wasRefused(String call, int status) {
        return REFUSED.contains(call + ' ' + status);
    }

    static void due(String call, long got, long want) {
        asked++;
        if (got != want) {
            wrong++;
            if (wrong <= 60) {
                System.out.println(where + ": " + call + " answered " + got + ", due is " + want);
            }
        }
    }

    static void due(String call, boolean got, boolean want) {
        due(call, got ? 1 : 0, want ? 1 : 0);
    }

    /** An answer with STATUS 0. */
    static void good(DoorTongue x, String call, long got, long want) {
        due(call, got, want);
        due(call + " STATUS", x.status(), 0);
    }

    static void good(DoorTongue x, String call, boolean got) {
        good(x, call, got ? 1 : 0, 1);
    }

    /** NONE with that STATUS. */
    static void bad(DoorTongue x, String call, long got, int status) {
        REFUSED.add(call.split("\\(")[0] + ' ' + status);
        due(call, got, -1);
        due(call + " STATUS", x.status(), status);
    }

    static void bad(DoorTongue x, String call, boolean got, int status) {
        REFUSED.add(call.split("\\(")[0] + ' ' + status);
        due(call, got, false);
        due(call + " STATUS", x.status(), status);
    }

    static void fraction(DoorTongue x, String call, long top, long bottom) {
        due(call + " top", x.top(), top);
        due(call + " bottom", x.bottom(), bottom);
    }

    static int close(String name) {
        System.out.println(name + ": " + asked + " answers asked, " + wrong + " wrong");
        return wrong == 0 ? 0 : 1;
    }

    /** Puts the text on an empty tape (and what fills the last twenty bytes). */
    static int feed(DoorTongue x, String text) {
        byte[] bytes = new byte[(text.length() + 19) / 20 * 20];
        for (int i = 0; i < text.length(); i++) {
            bytes[i] = (byte) text.charAt(i);
        }
        int on = 0;
        for (int i = 0; i < bytes.length; i += 20) {
            int[] five = new int[5];
            for (int k = 0; k < 20; k++) {
                five[k / 4] = five[k / 4] << 8 | bytes[i + k] & 255;
            }
            on = x.feed(five[0], five[1], five[2], five[3], five[4]);
        }
        return on;
    }

    static int house(DoorTongue x, String text) {
        feed(x, text);
        return x.house(text.length());
    }

    static int days(DoorTongue x, String text) {
        feed(x, text);
        return x.days(text.length());
    }

    /** On a new object; ^ stands in the text where its FAULT is. */
    static void houseFault(String marked, int kind) {
        houseFault(new DoorTongue(), marked, kind);
    }

    static void houseFault(DoorTongue x, String marked, int kind) {
        String text = unmarked(marked);
        bad(x, "house(" + text + ")", house(x, text), 9);
        due("fault(0) of " + text, x.fault(0), kind);
        due("fault(1) of " + text, x.fault(1), marked.indexOf('^'));
    }

    static void daysFault(String house, String marked, int kind) {
        daysFault(with(house), marked, kind);
    }

    static void daysFault(DoorTongue x, String marked, int kind) {
        String text = unmarked(marked);
        bad(x, "days(" + text + ")", days(x, text), 9);
        due("fault(0) of " + text, x.fault(0), kind);
        due("fault(1) of " + text, x.fault(1), marked.indexOf('^'));
    }

    private static String unmarked(String marked) {
        int place = marked.indexOf('^');
        return marked.substring(0, place) + marked.substring(place + 1);
    }

    /** A HOUSE that has no FAULT, on a new object. */
    static DoorTongue houseTaken(String text, int people) {
        DoorTongue x = new DoorTongue();
        good(x, "house(" + text + ")", house(x, text), people);
        due("fault(0) of " + text, x.fault(0), 0);
        due("fault(1) of " + text, x.fault(1), -1);
        return x;
    }

    static DoorTongue daysTaken(String house, String text, int steps) {
        DoorTongue x = with(house);
        good(x, "days(" + text + ")", days(x, text), steps);
        due("fault(0) of " + text, x.fault(0), 0);
        due("fault(1) of " + text, x.fault(1), -1);
        return x;
    }

    static DoorTongue with(String house) {
        DoorTongue x = new DoorTongue();
        house(x, house);
        due("house() STATUS", x.status(), 0);
        return x;
    }

    static DoorTongue with(String house, String days) {
        DoorTongue x = with(house);
        days(x, days);
        due("days() STATUS", x.status(), 0);
        return x;
    }

    static void fill(DoorTongue x, int tray, int... numbers) {
        x.tray(tray, 0, numbers.length);
        for (int i = 0; i < numbers.length; i++) {
            x.write(tray, i, numbers[i]);
        }
    }

    /** The HOUSE, what became of it and the FRACTION, for "changes nothing else". */
    static String all(DoorTongue x) {
        return houseOf(x) + x.top() + '/' + x.bottom();
    }

    /** All that can be asked of the HOUSE and of what became of it without changing it. */
    static String houseOf(DoorTongue x) {
        StringBuilder told = new StringBuilder();
        for (int i = 0; i < 7; i++) {
            told.append(x.told(i)).append(' ');
        }
        for (int d = 0; d < x.told(1); d++) {
            for (int w = 0; w < 4; w++) {
                told.append(x.door(d, w)).append(',');
            }
        }
        for (int w = 0; w < x.told(2); w++) {
            for (int k = 0; k < x.says(w); k++) {
                told.append(x.saysAt(w, k));
            }
            told.append('/');
        }
        for (int p = 0; p < x.told(3); p++) {
            for (int w = 0; w < 4; w++) {
                told.append(x.person(p, w)).append(',');
            }
            for (int k = 0; k < x.person(p, 3); k++) {
                told.append(x.heardAt(p, k));
            }
            told.append('/');
        }
        return told.toString();
    }

    /** What told() tells: ROOMS, DOORS, WORDS, PEOPLE, ODDS, the OPEN ones, how often a SOUND was made. */
    static void toldIs(DoorTongue x, int... want) {
        for (int what = 0; what < want.length; what++) {
            good(x, "told(" + what + ")", x.told(what), want[what]);
        }
    }

    /** What lived() tells: MISSED, made, HEARD, gone, left. */
    static void livedIs(DoorTongue x, int... want) {
        for (int what = 0; what < want.length; what++) {
            good(x, "lived(" + what + ")", x.lived(what), want[what]);
        }
    }

    static void galeIs(DoorTongue x, int n, int k, long top, long bottom) {
        good(x, "gale(" + n + ", " + k + ")", x.gale(n, k));
        fraction(x, "gale(" + n + ", " + k + ")", top, bottom);
    }

    static void same(String call, String got, String want) {
        due(call + " is as it was", got.equals(want), true);
    }

    static long[] heard(DoorTongue x, int person) {
        long[] row = new long[x.person(person, 3)];
        for (int k = 0; k < row.length; k++) {
            row[k] = x.heardAt(person, k);
        }
        return row;
    }

    static void heardRow(DoorTongue x, int person, long... want) {
        due("what " + person + " heard: " + Arrays.toString(heard(x, person)),
            Arrays.equals(heard(x, person), want), true);
    }
}
