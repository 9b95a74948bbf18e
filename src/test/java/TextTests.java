/** Texts by luck, most of them wrong somewhere: each FAULT and its place are those of the TextModel. */
public final class TextTests {
    private static final int TEXTS = 60000;
    private static final String[] PIECES = {"odds", "room", "door", "baize", "open", "word", "says", "slam", "shut",
        "latch", "ajar", "person", "in", "deaf", "knows", "close", "go", "forget", "any", "when", "heard", "loop",
        "end", "stop", ";", ";", ";", "<", ">", "=", "a", "b", "c", "p", "q", "w", "v", "abcdefgh", "abcdefghi", "0",
        "1", "9", "10", "16", "17", "0003", "9999", "10000", "$", "A", "\t", "\r", "ro", "rooms", "{", "-1", "\u00e9"};
    private static final String HOUSE = "odds 8;room a;room b;room c;door a b baize 2 open;door b c;"
        + "word w says slam;word v says slam latch;person p in a deaf 1 knows w v;person q in c;";
    private static final String[] DAYS = {"close p 0 slam;go q 1;open p 1;forget p;any;stop;",
        "when in p a;close p 1 ajar;end;when open 1;any;end;when heard q < 8;loop 99;when heard p = 0;end;end;end;",
        "loop 2;loop 3;loop 4;any;end;any;end;any;end;any;", "any;any;any;any;any;any;any;any;any;any;any;any;any;"
        + "any;any;any;any;any;any;any;any;any;any;any;any;any;any;any;any;any;"};
    private static final String[] HOUSES = {HOUSE,
        "room a;room b;room c;room d;room e;room f;room g;",
        "room a;room b;door a b;door a b;door a b;door a b;door a b;door a b;door a b;door a b;door a b;door a b;",
        "word a says slam;word b says shut;word c says ajar;word d says latch;word e says slam slam;"
        + "word f says slam shut ajar latch;word g says ajar ajar;",
        "room r;person a in r;person b in r;person c in r;person d in r;person e in r;"};

    private TextTests() {
    }

    public static void main(String[] args) {
        Luck luck = new Luck(2026);
        TextModel house = TextModel.house(HOUSE);
        int right = 0;
        for (int i = 0; i < TEXTS; i++) {
            Check.at("text " + i);
            boolean ofHouse = luck.once(2);
            String[] from = ofHouse ? HOUSES : DAYS;
            String text = spoilt(luck, from[luck.below(from.length)], ofHouse ? 900 : 300);
            right += compare(text, ofHouse, house) ? 1 : 0;
        }
        Check.due("many were right", right > TEXTS / 50, true);
        Check.due("many were wrong", right < TEXTS / 2, true);
        System.exit(Check.close("TextTests"));
    }

    private static boolean compare(String text, boolean ofHouse, TextModel house) {
        DoorTongue x = Check.with(HOUSE);
        int got = ofHouse ? Check.house(x, text) : Check.days(x, text);
        int kind = 0;
        int place = -1;
        int want = -1;
        try {
            TextModel m = ofHouse ? TextModel.house(text) : TextModel.days(text, house);
            want = ofHouse ? m.people.size() : m.steps;
        } catch (TextModel.Fault fault) {
            kind = fault.kind;
            place = fault.place;
        }
        Check.due("of " + text, got, want);
        Check.due("STATUS of " + text, x.status(), kind == 0 ? 0 : 9);
        Check.due("fault(0) of " + text, x.fault(0), kind);
        Check.due("fault(1) of " + text, x.fault(1), place);
        return kind == 0;
    }

    private static String spoilt(Luck luck, String text, int most) {
        String now = text;
        for (int changes = 1 + luck.below(3); changes > 0; changes--) {
            int at = luck.below(now.length() + 1);
            int to = Math.min(now.length(), at + luck.below(4));
            String piece = PIECES[luck.below(PIECES.length)];
            switch (luck.below(6)) {
                case 0: now = now.substring(0, at); break;
                case 1: now = now.substring(0, at) + now.substring(to); break;
                case 2: now = now.substring(0, at) + piece + now.substring(to); break;
                case 3: now = now.substring(0, at) + " " + piece + " " + now.substring(at); break;
                case 4: now = atPiece(luck, now, piece); break;
                default: now = now + piece + (luck.once(2) ? " " + PIECES[luck.below(PIECES.length)] : ""); break;
            }
        }
        return now.length() > most ? now.substring(0, most) : now;
    }

    /** Puts a piece in the place of a whole TOKEN. */
    private static String atPiece(Luck luck, String text, String piece) {
        String[] parts = text.split("(?<=[ ;])|(?=[ ;])");
        parts[luck.below(parts.length)] = piece;
        return String.join("", parts);
    }
}
