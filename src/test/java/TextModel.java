import java.util.ArrayList;
import java.util.HashSet;
import java.util.List;
import java.util.Set;

/** The texts' grammars once more: all TOKENS are cut first, and a FAULT is thrown where it is. */
final class TextModel {
    static final class Fault extends RuntimeException {
        private static final long serialVersionUID = 1L;
        final int kind;
        final int place;

        Fault(int kind, int place) {
            super(null, null, false, false);
            this.kind = kind;
            this.place = place;
        }
    }

    private record Token(String text, int place) {
    }

    private static final List<String> SOUNDS = List.of("slam", "shut", "latch", "ajar");
    private static final Set<String> RESERVED = Set.of("odds", "room", "door", "baize", "open", "word", "says",
        "slam", "shut", "latch", "ajar", "person", "in", "deaf", "knows", "close", "go", "forget", "any", "when",
        "heard", "loop", "end", "stop");

    private final List<Token> tokens = new ArrayList<>();
    private int at = 0;
    final List<String> rooms = new ArrayList<>();
    final List<String> words = new ArrayList<>();
    final List<String> people = new ArrayList<>();
    final Set<List<String>> said = new HashSet<>();
    int doors = 0;
    int steps = 0;

    private TextModel(String text) {
        int i = 0;
        while (i < text.length()) {
            int from = i;
            char c = text.charAt(i++);
            if (c == ' ' || c == '\n') {
                continue;
            }
            if (small(c)) {
                while (i < text.length() && small(text.charAt(i))) {
                    i++;
                }
            } else if (digit(c)) {
                while (i < text.length() && digit(text.charAt(i))) {
                    i++;
                }
            }
            tokens.add(new Token(text.substring(from, i), from));
        }
        tokens.add(new Token("", text.length()));
    }

    private static boolean small(char c) {
        return "abcdefghijklmnopqrstuvwxyz".indexOf(c) >= 0;
    }

    private static boolean digit(char c) {
        return "0123456789".indexOf(c) >= 0;
    }

    static TextModel house(String text) {
        TextModel m = new TextModel(text);
        boolean odds = false;
        while (!m.now().isEmpty()) {
            String word = m.now();
            boolean many = word.equals("room") && m.rooms.size() == 7 || word.equals("door") && m.doors == 10
                || word.equals("word") && m.words.size() == 7 || word.equals("person") && m.people.size() == 5;
            if (many) {
                throw m.fault(6);
            }
            if (word.equals("odds") && odds) {
                throw m.fault(5);
            }
            m.part(m.oneOf("odds", "room", "door", "word", "person"));
            odds |= word.equals("odds");
            m.oneOf(";");
        }
        return m;
    }

    static TextModel days(String text, TextModel house) {
        TextModel m = new TextModel(text);
        m.rooms.addAll(house.rooms);
        m.people.addAll(house.people);
        m.doors = house.doors;
        m.steps(0);
        if (!m.now().isEmpty()) {
            throw m.fault(2);
        }
        return m;
    }

    private String now() {
        return tokens.get(at).text;
    }

    private Fault fault(int kind) {
        String t = now();
        boolean none = !t.isEmpty() && !t.matches("[a-z]+|[0-9]{1,4}|[;<>=]");
        return new Fault(none ? 1 : kind, tokens.get(at).place);
    }

    private String oneOf(String... texts) {
        if (!List.of(texts).contains(now())) {
            throw fault(2);
        }
        return tokens.get(at++).text;
    }

    private boolean next(String text) {
        if (now().equals(text)) {
            at++;
            return true;
        }
        return false;
    }

    private int number(int least, int most) {
        if (!now().matches("[0-9]{1,4}")) {
            throw fault(2);
        }
        int n = Integer.parseInt(now());
        if (n < least || n > most) {
            throw fault(4);
        }
        at++;
        return n;
    }

    private boolean isName() {
        return now().matches("[a-z]{1,8}") && !RESERVED.contains(now());
    }

    private String fresh() {
        if (!isName()) {
            throw fault(2);
        }
        if (rooms.contains(now()) || words.contains(now()) || people.contains(now())) {
            throw fault(3);
        }
        return tokens.get(at++).text;
    }

    private String old(List<String> names, String but) {
        if (!isName()) {
            throw fault(2);
        }
        if (!names.contains(now())) {
            throw fault(3);
        }
        if (now().equals(but)) {
            throw fault(5);
        }
        return tokens.get(at++).text;
    }

    private void part(String word) {
        switch (word) {
            case "odds": number(0, 16); break;
            case "room": rooms.add(fresh()); break;
            case "door": door(); break;
            case "word": word(); break;
            default: person(); break;
        }
    }

    private void door() {
        old(rooms, old(rooms, ""));
        if (next("baize")) {
            number(0, 9);
        }
        next("open");
        doors++;
    }

    private void word() {
        String name = fresh();
        oneOf("says");
        List<String> row = new ArrayList<>();
        row.add(oneOf("slam", "shut", "latch", "ajar"));
        while (SOUNDS.contains(now())) {
            if (row.size() == 4) {
                throw fault(5);
            }
            row.add(tokens.get(at++).text);
        }
        if (now().equals(";") && !said.add(row)) {
            throw fault(5);
        }
        words.add(name);
    }

    private void person() {
        String name = fresh();
        oneOf("in");
        old(rooms, "");
        if (next("deaf")) {
            number(0, 9);
        }
        if (next("knows")) {
            List<String> known = new ArrayList<>();
            while (isName()) {
                if (known.contains(now())) {
                    throw fault(5);
                }
                known.add(old(words, ""));
            }
        }
        people.add(name);
    }

    private void steps(int within) {
        while (!now().isEmpty() && !now().equals("end")) {
            boolean isStep = now().matches("close|open|go|forget|any|when|loop|stop");
            if (isStep && steps == 30) {
                throw fault(6);
            }
            if (now().matches("when|loop") && within == 3) {
                throw fault(7);
            }
            String word = oneOf("close", "open", "go", "forget", "any", "when", "loop", "stop");
            steps++;
            step(word);
            oneOf(";");
            if (word.matches("when|loop")) {
                steps(within + 1);
                oneOf("end");
                oneOf(";");
            }
        }
    }

    private void step(String word) {
        if (word.matches("close|open|go|forget")) {
            old(people, "");
        }
        if (word.matches("close|open|go")) {
            number(0, doors - 1);
        }
        if (word.equals("close")) {
            oneOf("slam", "shut", "latch", "ajar");
        }
        if (word.equals("loop")) {
            number(1, 99);
        }
        if (word.equals("when")) {
            test(oneOf("in", "open", "heard"));
        }
    }

    private void test(String word) {
        if (word.equals("open")) {
            number(0, doors - 1);
            return;
        }
        old(people, "");
        if (word.equals("in")) {
            old(rooms, "");
        } else {
            oneOf("<", ">", "=");
            number(0, 8);
        }
    }
}
