import java.util.Map;
import java.util.Set;
import java.util.TreeMap;

/** Which STATUS, beside 0, each call can give by its promise. */
final class Statuses {
    private static final String TABLE = "tray 1;write 1 2 3;read 1 2 3;pour 1 2 8 3;house 1 9;days 1 9;told 1;door 1;"
        + "says 1;saysAt 1 6;person 1;heardAt 1 6;close 1 7;open 1 7;go 1 7;forget 1 7;teach 1 7;coin 1 2 3 4 5 7;"
        + "come 1 4;line 1;deafen 1;rule 1;loss 1 6;hearers 1;hears 1;hush 1 6;secret 1 6;readings 1;first 1 6;"
        + "firstAt 1 6;means 1 2 3 5;unsaid 1 2 3 5;doubt 1 6;doubtAt 1 6;shared 1;far 1 6;way 1 6;part 1;apart 1 6;"
        + "apartSet 1 6;together 1 6;culprits 1 2 3 5;game 1;moveOf 1 6;gale 1;copyRooms 1 2 3;live 1 6;lived 1 6;"
        + "mean 1 6;mark 4;undo 6";
    private static final Map<String, int[]> ALL = read();

    private Statuses() {
    }

    private static Map<String, int[]> read() {
        Map<String, int[]> all = new TreeMap<>();
        for (String row : TABLE.split(";")) {
            String[] parts = row.split(" ");
            int[] statuses = new int[parts.length - 1];
            for (int i = 1; i < parts.length; i++) {
                statuses[i - 1] = Integer.parseInt(parts[i]);
            }
            all.put(parts[0], statuses);
        }
        return all;
    }

    static Set<String> calls() {
        return ALL.keySet();
    }

    /** Of a call that has one. */
    static int[] of(String call) {
        return ALL.get(call);
    }

    static boolean can(String call, int status) {
        for (int one : ALL.get(call)) {
            if (one == status) {
                return true;
            }
        }
        return status == 0;
    }
}
