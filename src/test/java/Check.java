import java.util.Arrays;

/** What the tests share: counting what is wrong, and handing texts to a DoorTongue. */
final class Check {
    private static int wrong = 0;
    private static int asked = 0;
    private static String where = "";

    private Check() {
    }

    static void at(String place) {
        where = place;
    }

    static void due(String call, long got, long want) {
        asked++;
        if (got != want) {
            wrong++;
            if (wrong <= 60) {
                System.out.println(where + ": " + call + " answered " + got + ", due is " + want);
            }
        }
    }

    static void due(String call, boolean got, boolean want) {
        due(call, got ? 1 : 0, want ? 1 : 0);
    }

    /** An answer with STATUS 0. */
    static void good(DoorTongue x, String call, long got, long want) {
        due(call, got, want);
        due(call + " STATUS", x.status(), 0);
    }

    static void good(DoorTongue x, String call, boolean got) {
        good(x, call, got ? 1 : 0, 1);
    }

    /** NONE with that STATUS. */
    static void bad(DoorTongue x, String call, long got, int status) {
        due(call, got, -1);
        due(call + " STATUS", x.status(), status);
    }

    static void bad(DoorTongue x, String call, boolean got, int status) {
        due(call, got, false);
        due(call + " STATUS", x.status(), status);
    }

    static void fraction(DoorTongue x, String call, long top, long bottom) {
        due(call + " top", x.top(), top);
        due(call + " bottom", x.bottom(), bottom);
    }

    static int close(String name) {
        System.out.println(name + ": " + asked + " answers asked, " + wrong + " wrong");
        return wrong == 0 ? 0 : 1;
    }

    /** Puts the text on an empty tape (and what fills the last twenty bytes). */
    static int feed(DoorTongue x, String text) {
        byte[] bytes = new byte[(text.length() + 19) / 20 * 20];
        for (int i = 0; i < text.length(); i++) {
            bytes[i] = (byte) text.charAt(i);
        }
        int on = 0;
        for (int i = 0; i < bytes.length; i += 20) {
            int[] five = new int[5];
            for (int k = 0; k < 20; k++) {
                five[k / 4] = five[k / 4] << 8 | bytes[i + k] & 255;
            }
            on = x.feed(five[0], five[1], five[2], five[3], five[4]);
        }
        return on;
    }

    static int house(DoorTongue x, String text) {
        feed(x, text);
        return x.house(text.length());
    }

    static int days(DoorTongue x, String text) {
        feed(x, text);
        return x.days(text.length());
    }

    static DoorTongue with(String house) {
        DoorTongue x = new DoorTongue();
        house(x, house);
        due("house() STATUS", x.status(), 0);
        return x;
    }

    static DoorTongue with(String house, String days) {
        DoorTongue x = with(house);
        days(x, days);
        due("days() STATUS", x.status(), 0);
        return x;
    }

    static void fill(DoorTongue x, int tray, int... numbers) {
        x.tray(tray, 0, numbers.length);
        for (int i = 0; i < numbers.length; i++) {
            x.write(tray, i, numbers[i]);
        }
    }

    /** Everything that can be asked of an object without changing it, for "changes nothing else". */
    static String all(DoorTongue x) {
        StringBuilder told = new StringBuilder();
        for (int i = 0; i < 7; i++) {
            told.append(x.told(i)).append(' ');
        }
        for (int d = 0; d < x.told(1); d++) {
            for (int w = 0; w < 4; w++) {
                told.append(x.door(d, w)).append(',');
            }
        }
        for (int w = 0; w < x.told(2); w++) {
            for (int k = 0; k < x.says(w); k++) {
                told.append(x.saysAt(w, k));
            }
            told.append('/');
        }
        for (int p = 0; p < x.told(3); p++) {
            for (int w = 0; w < 4; w++) {
                told.append(x.person(p, w)).append(',');
            }
            for (int k = 0; k < x.person(p, 3); k++) {
                told.append(x.heardAt(p, k));
            }
            told.append('/');
        }
        return told.append(x.top()).append('/').append(x.bottom()).toString();
    }

    static void same(String call, String got, String want) {
        due(call + " is as it was", got.equals(want), true);
    }

    static long[] heard(DoorTongue x, int person) {
        long[] row = new long[x.person(person, 3)];
        for (int k = 0; k < row.length; k++) {
            row[k] = x.heardAt(person, k);
        }
        return row;
    }

    static void heardRow(DoorTongue x, int person, long... want) {
        due("what " + person + " heard: " + Arrays.toString(heard(x, person)),
            Arrays.equals(heard(x, person), want), true);
    }
}
