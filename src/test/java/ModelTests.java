import java.util.ArrayList;
import java.util.List;
import java.util.function.ToIntFunction;

/** Many houses by luck: every answer is compared with that of the Model. */
public final class ModelTests {
    private static final int HOUSES = 400;

    private final Luck luck;
    /** What was done to x, so that it can be done again: an object is good for 512 calls alone. */
    private final List<ToIntFunction<DoorTongue>> past = new ArrayList<>();
    private DoorTongue x = new DoorTongue();
    private Model m = new Model();
    private List<DaysModel.Step> steps = new ArrayList<>();
    private boolean daysThere;
    private int named;
    private String text = "";
    private int stepsLeft;
    private int stepsMade;

    private ModelTests(int seed) {
        luck = new Luck(seed);
    }

    public static void main(String[] args) {
        for (int i = 0; i < HOUSES; i++) {
            new ModelTests(i).run(i);
        }
        gales();
        System.exit(Check.close("ModelTests"));
    }

    private static void gales() {
        for (int odds = 0; odds <= 16; odds++) {
            DoorTongue x = new DoorTongue();
            x.rule(odds);
            for (int n = 0; n <= 12; n += n < 7 ? 2 : 1) {
                for (int k = 0; k <= 12; k += n < 7 ? 2 : 1) {
                    long[] want = Model.gale(odds, n, k);
                    Check.good(x, "gale(" + n + ", " + k + ")", x.gale(n, k));
                    Check.fraction(x, "gale(" + n + ", " + k + ") by " + odds, want[0], want[1]);
                }
            }
        }
    }

    private void run(int seed) {
        Check.at("house " + seed);
        makeHouse();
        makeDays();
        compareAll();
        for (int i = 0; i < 12; i++) {
            Check.at("house " + seed + ", change " + i);
            change();
            compareState();
            if (i % 4 == 3) {
                compareAll();
            }
        }
    }

    /** Does a call and keeps it for renew(). */
    private int done(ToIntFunction<DoorTongue> call) {
        past.add(call);
        return call.applyAsInt(x);
    }

    /** Another object to which the same was done. */
    private void renew() {
        x = new DoorTongue();
        for (ToIntFunction<DoorTongue> call : past) {
            call.applyAsInt(x);
        }
    }

    private static String roomName(int r) {
        return "r" + (char) ('a' + r);
    }

    private static String personName(int p) {
        return "person".charAt(p % 6) + "q" + (char) ('a' + p);
    }

    private void makeHouse() {
        StringBuilder t = new StringBuilder();
        if (!luck.once(3)) {
            m.odds = luck.below(17);
            t.append("odds ").append(m.odds).append(" ;");
        }
        m.rooms = luck.once(20) ? 0 : 1 + luck.below(7);
        for (int r = 0; r < m.rooms; r++) {
            t.append("room ").append(roomName(r)).append(";\n");
        }
        int doors = m.rooms < 2 ? 0 : luck.below(11);
        for (int d = 0; d < doors; d++) {
            int one = luck.below(m.rooms);
            int other = (one + 1 + luck.below(m.rooms - 1)) % m.rooms;
            int baize = luck.once(2) ? 0 : luck.below(10);
            boolean open = !luck.once(3);
            m.doors.add(new int[] {one, other, baize, open ? 1 : 0});
            t.append("door ").append(roomName(one)).append(' ').append(roomName(other));
            t.append(baize > 0 ? " baize " + baize : "").append(open ? " open;" : ";");
        }
        makeWords(t);
        int people = m.rooms == 0 ? 0 : luck.below(6);
        for (int p = 0; p < people; p++) {
            makePerson(t, p);
        }
        named = people;
        text = t.toString();
        Check.good(x, "house(" + t + ")", done(d -> Check.house(d, text)), people);
    }

    private void makeWords(StringBuilder t) {
        int words = luck.below(8);
        int kinds = 1 + luck.below(4);
        for (int i = 0; i < 40 && m.words.size() < words; i++) {
            List<Integer> word = new ArrayList<>();
            int length = 1 + luck.below(4);
            for (int k = 0; k < length; k++) {
                word.add(luck.below(kinds));
            }
            if (!m.words.contains(word)) {
                t.append("word w").append((char) ('a' + m.words.size())).append(" says");
                for (int sound : word) {
                    t.append(' ').append(Model.SOUND[sound]);
                }
                t.append(";");
                m.words.add(word);
            }
        }
    }

    private void makePerson(StringBuilder t, int number) {
        Model.Person p = new Model.Person();
        p.room = luck.below(m.rooms);
        p.deaf = luck.once(2) ? 0 : luck.below(10);
        t.append("person ").append(personName(number)).append(" in ").append(roomName(p.room));
        t.append(p.deaf > 0 ? " deaf " + p.deaf : "").append(" knows");
        for (int w = m.words.size() - 1; w >= 0; w--) {
            if (!luck.once(3)) {
                p.knows |= 1 << w;
                t.append(" w").append((char) ('a' + w));
            }
        }
        t.append(";");
        m.people.add(p);
    }

    private void makeDays() {
        if (luck.once(6)) {
            return;
        }
        StringBuilder t = new StringBuilder();
        stepsLeft = 1 + luck.below(16);
        stepsMade = 0;
        steps = new ArrayList<>();
        makeSteps(t, steps, 0);
        if (t.length() > 300) {
            steps = new ArrayList<>();
            stepsMade = 0;
            t.setLength(0);
        }
        daysThere = true;
        String days = t.toString();
        Check.good(x, "days(" + t + ")", done(d -> Check.days(d, days)), stepsMade);
    }

    private void makeSteps(StringBuilder t, List<DaysModel.Step> into, int depth) {
        int many = depth == 0 ? stepsLeft : luck.below(5);
        for (int i = 0; i < many && stepsLeft > 0; i++) {
            stepsLeft--;
            stepsMade++;
            into.add(makeStep(t, depth));
        }
    }

    private DaysModel.Step makeStep(StringBuilder t, int depth) {
        int kind = luck.below(depth < 3 ? 8 : 5);
        boolean acts = named > 0 && m.doors.size() > 0;
        int who = named > 0 ? luck.below(named) : 0;
        int door = m.doors.size() > 0 ? luck.below(m.doors.size()) : 0;
        String name = personName(who);
        if (acts && kind == 0) {
            int sound = luck.below(4);
            t.append("close ").append(name).append(' ').append(door).append(' ').append(Model.SOUND[sound]).append(";");
            return new DaysModel.Step("close", who, door, sound, "");
        }
        if (acts && (kind == 1 || kind == 2)) {
            String word = kind == 1 ? "open" : "go";
            t.append(word).append(' ').append(name).append(' ').append(door).append(";");
            return new DaysModel.Step(word, who, door, 0, "");
        }
        if (named > 0 && kind == 3) {
            t.append("forget ").append(name).append(";");
            return new DaysModel.Step("forget", who, 0, 0, "");
        }
        if (kind == 5 || kind == 7 && named == 0) {
            int times = luck.once(3) ? 99 : 1 + luck.below(6);
            t.append("loop ").append(times).append(";");
            return nest(t, new DaysModel.Step("loop", 0, times, 0, ""), depth);
        }
        if (kind >= 6 && acts) {
            return nest(t, makeTest(t, who, door), depth);
        }
        if (kind == 4 && luck.once(6)) {
            t.append("stop;");
            return new DaysModel.Step("stop", 0, 0, 0, "");
        }
        t.append("any;");
        return new DaysModel.Step("any", 0, 0, 0, "");
    }

    private DaysModel.Step makeTest(StringBuilder t, int who, int door) {
        int kind = luck.below(5);
        if (kind == 0) {
            int room = luck.below(m.rooms);
            t.append("when in ").append(personName(who)).append(' ').append(roomName(room)).append(";");
            return new DaysModel.Step("when", who, room, 0, "in");
        }
        if (kind == 1) {
            t.append("when open ").append(door).append(";");
            return new DaysModel.Step("when", who, door, 0, "open");
        }
        int many = luck.below(9);
        String sign = "<>=".substring(kind - 2, kind - 1);
        t.append("when heard ").append(personName(who)).append(sign).append(many).append(";");
        return new DaysModel.Step("when", who, many, 0, sign);
    }

    private DaysModel.Step nest(StringBuilder t, DaysModel.Step step, int depth) {
        makeSteps(t, step.within, depth + 1);
        t.append("end;");
        return step;
    }

    private void compareState() {
        renew();
        Check.due("ROOMS of " + text, x.told(0), m.rooms);
        Check.due("DOORS", x.told(1), m.doors.size());
        Check.due("WORDS", x.told(2), m.words.size());
        Check.due("PEOPLE", x.told(3), m.people.size());
        Check.due("ODDS", x.told(4), m.odds);
        Check.due("OPEN", x.told(5), m.openSet());
        Check.due("made", x.told(6), m.made);
        for (int d = 0; d < m.doors.size(); d++) {
            for (int w = 0; w < 4; w++) {
                Check.due("door(" + d + ", " + w + ")", x.door(d, w), m.doors.get(d)[w]);
            }
        }
        for (int w = 0; w < m.words.size(); w++) {
            Check.due("says(" + w + ")", x.says(w), m.words.get(w).size());
            for (int k = 0; k < m.words.get(w).size(); k++) {
                Check.due("saysAt(" + w + ", " + k + ")", x.saysAt(w, k), m.words.get(w).get(k));
            }
        }
        for (int p = 0; p < m.people.size(); p++) {
            Model.Person one = m.people.get(p);
            Check.due("room of " + p, x.person(p, 0), one.room);
            Check.due("deaf of " + p, x.person(p, 1), one.deaf);
            Check.due("words of " + p, x.person(p, 2), one.knows);
            Check.due("heard of " + p, x.person(p, 3), one.heard.size());
            for (int k = 0; k < one.heard.size(); k++) {
                Check.due("heardAt(" + p + ", " + k + ")", x.heardAt(p, k), one.heard.get(k));
            }
        }
    }

    private void compareAll() {
        compareState();
        compareRooms();
        compareDoors();
        compareMeanings();
        comparePairs();
        compareCulprits();
        compareGames();
        compareMean();
        compareState();
    }

    private void found(String call, int got, int want) {
        if (want < 0) {
            Check.bad(x, call, got, 6);
        } else {
            Check.good(x, call, got, want);
        }
    }

    private void compareRooms() {
        for (int r = 0; r < m.rooms; r++) {
            renew();
            Check.good(x, "part(" + r + ")", x.part(r), m.part(r, m.openSet()));
            for (int s = 0; s < m.rooms; s++) {
                int loss = m.loss(r, s, -1, 0, 1 << r);
                found("loss(" + r + ", " + s + ")", x.loss(r, s), loss < 1000 ? loss : -1);
                List<Integer> way = m.way(r, s);
                found("far(" + r + ", " + s + ")", x.far(r, s), way == null ? -1 : way.size() - 1);
                for (int k = 0; k < 8; k++) {
                    int room = way == null || k >= way.size() ? -1 : way.get(k);
                    found("way(" + r + ", " + s + ", " + k + ")", x.way(r, s, k), room);
                }
            }
        }
    }

    private void compareDoors() {
        for (int sound = 0; sound < 4; sound++) {
            renew();
            int[] heard = new int[m.people.size()];
            for (int d = 0; d < m.doors.size(); d++) {
                int set = m.hearers(d, sound, -1);
                Check.good(x, "hearers(" + d + ", " + sound + ")", x.hearers(d, sound), set);
                for (int p = 0; p < heard.length; p++) {
                    heard[p] |= (set >> p & 1) << d;
                    found("hush(" + d + ", " + sound + ", " + p + ")", x.hush(d, sound, p), m.hush(d, sound, p));
                }
            }
            for (int p = 0; p < heard.length; p++) {
                Check.good(x, "hears(" + p + ", " + sound + ")", x.hears(p, sound), heard[p]);
            }
        }
    }

    private void compareMeanings() {
        for (int p = 0; p < m.people.size(); p++) {
            renew();
            Model.Person one = m.people.get(p);
            List<List<Integer>> all = m.readings(one.heard, one.knows);
            Check.good(x, "readings(" + p + ")", x.readings(p), all.size());
            List<Integer> first = Model.least(all);
            found("first(" + p + ")", x.first(p), first == null ? -1 : first.size());
            for (int k = 0; k < 9; k++) {
                int word = first == null || k >= first.size() ? -1 : first.get(k);
                found("firstAt(" + p + ", " + k + ")", x.firstAt(p, k), word);
            }
            if (luck.once(3)) {
                List<Integer> doubt = m.doubt(one.knows);
                found("doubt(" + p + ")", x.doubt(p), doubt == null ? -1 : doubt.size());
                for (int k = 0; k < 8; k++) {
                    int sound = doubt == null || k >= doubt.size() ? -1 : doubt.get(k);
                    found("doubtAt(" + p + ", " + k + ")", x.doubtAt(p, k), sound);
                }
            }
            compareRow(p, one);
        }
    }

    private void compareRow(int p, Model.Person one) {
        List<Integer> row = new ArrayList<>();
        int[] numbers = new int[luck.below(11)];
        for (int i = 0; i < numbers.length; i++) {
            numbers[i] = luck.below(luck.once(4) ? 4 : 2);
            row.add(numbers[i]);
        }
        Check.fill(x, 0, numbers);
        Check.good(x, "means(" + p + ", " + row + ")", x.means(p, 0, numbers.length), m.readings(row, one.knows).size());
        if (m.words.isEmpty()) {
            return;
        }
        numbers = new int[luck.below(5)];
        row = new ArrayList<>();
        for (int i = 0; i < numbers.length; i++) {
            numbers[i] = luck.below(m.words.size());
            row.addAll(m.words.get(numbers[i]));
        }
        Check.fill(x, 1, numbers);
        Check.good(x, "unsaid(" + p + ", " + row + ")", x.unsaid(p, 1, numbers.length), m.readings(row, one.knows).size());
    }

    private void comparePairs() {
        int people = m.people.size();
        for (int p = 0; p < people; p++) {
            renew();
            for (int q = 0; q < people; q++) {
                if (p != q) {
                    comparePair(p, q);
                }
                for (int r = 0; r < people; r++) {
                    int sound = luck.below(4);
                    if (p == q || q == r || p == r) {
                        Check.bad(x, "secret() of two alike", x.secret(p, q, r, sound), 1);
                    } else {
                        found("secret(" + p + ", " + q + ", " + r + ", " + sound + ")",
                            x.secret(p, q, r, sound), m.secret(p, q, r, sound));
                    }
                }
            }
        }
    }

    private void comparePair(int p, int q) {
        int one = m.people.get(p).room;
        int other = m.people.get(q).room;
        int set = m.apartSet(one, other);
        found("apartSet(" + p + ", " + q + ")", x.apartSet(p, q), set);
        found("apart(" + p + ", " + q + ")", x.apart(p, q), set < 0 ? -1 : Integer.bitCount(set));
        found("together(" + p + ", " + q + ")", x.together(p, q), m.together(one, other));
        int shared = 0;
        for (int w = 0; w < m.words.size(); w++) {
            boolean read = !m.readings(m.words.get(w), m.people.get(q).knows).isEmpty();
            if ((m.people.get(p).knows >> w & 1) == 1 && read) {
                shared |= 1 << w;
            }
        }
        Check.good(x, "shared(" + p + ", " + q + ")", x.shared(p, q), shared);
    }

    private void compareCulprits() {
        renew();
        List<Integer> row = new ArrayList<>();
        for (int i = 0; i < 6 && m.doors.size() > 0; i++) {
            int d = luck.below(m.doors.size());
            if (m.doors.get(d)[3] == 1 && !row.contains(d)) {
                row.add(d);
            }
        }
        int[] numbers = new int[row.size()];
        for (int i = 0; i < numbers.length; i++) {
            numbers[i] = row.get(i);
        }
        Check.fill(x, 2, numbers);
        for (int n = 0; n <= numbers.length; n++) {
            int set = 0;
            for (int p = 0; p < m.people.size(); p++) {
                if (m.canHaveShut(m.people.get(p).room, m.openSet(), row.subList(0, n))) {
                    set |= 1 << p;
                }
            }
            Check.good(x, "culprits(" + row + ", " + n + ")", x.culprits(2, n), set);
        }
    }

    private void compareGames() {
        renew();
        for (int p = 0; p < m.people.size(); p++) {
            for (int n = 0; n <= (luck.once(4) ? 4 : 3); n++) {
                int room = m.people.get(p).room;
                Check.good(x, "game(" + p + ", " + n + ")", x.game(p, n), m.game(room, m.openSet(), 0, n));
                if (n > 0) {
                    found("moveOf(" + p + ", " + n + ")", x.moveOf(p, n), m.move(room, n));
                }
            }
        }
        x.tray(3, 3, 5);
        Check.good(x, "copyRooms(3)", x.copyRooms(3), m.people.size());
        for (int p = 0; p < m.people.size(); p++) {
            Check.good(x, "read(3, " + p + ")", x.read(3, p), m.people.get(p).room);
        }
    }

    private void compareMean() {
        int seed = luck.below(9980);
        int many = 1 + luck.below(20);
        boolean is = x.mean(seed, many);
        if (!daysThere) {
            Check.bad(x, "mean()", is, 6);
            return;
        }
        Check.good(x, "mean()", is);
        int open = 0;
        for (int i = 0; i < many; i++) {
            Model then = m.copy();
            DaysModel.live(then, steps, seed + i);
            open += Integer.bitCount(then.openSet());
        }
        Check.due("mean(" + seed + ", " + many + ") crosswise", x.top() * many, open * x.bottom());
        Check.due("no common divisor", java.math.BigInteger.valueOf(x.top())
            .gcd(java.math.BigInteger.valueOf(x.bottom())).longValue(), 1);
    }

    private void change() {
        renew();
        int kind = luck.below(12);
        if (kind == 0 || kind == 1) {
            live();
        } else if (kind == 2) {
            markAndUndo();
        } else if (kind == 3) {
            int odds = luck.below(17);
            m.odds = odds;
            Check.good(x, "rule()", done(d -> d.rule(odds) ? 1 : 0), 1);
        } else if (m.people.isEmpty() || m.doors.isEmpty()) {
            come();
        } else if (kind < 8) {
            act();
        } else {
            alter(kind);
        }
    }

    private void live() {
        int seed = luck.below(10000);
        int steps = done(d -> d.live(seed));
        if (!daysThere) {
            Check.bad(x, "live()", steps, 6);
            return;
        }
        DaysModel run = DaysModel.live(m, this.steps, seed);
        Check.good(x, "live(" + seed + ")", steps, run.done);
        int[] want = {run.missed, run.made, run.caught, run.gone, run.left};
        for (int i = 0; i < 5; i++) {
            Check.good(x, "lived(" + i + ")", x.lived(i), want[i]);
        }
    }

    private void markAndUndo() {
        Check.good(x, "mark()", done(DoorTongue::mark), 1);
        Model ahead = m.copy();
        for (int i = 0; i < 3; i++) {
            if (!m.people.isEmpty() && !m.doors.isEmpty()) {
                act();
            }
        }
        compareState();
        if (luck.once(2)) {
            String other = luck.once(2) ? "" : "room z;";
            Check.good(x, "house()", done(d -> Check.house(d, other)), 0);
        }
        Check.good(x, "undo()", done(DoorTongue::undo), 0);
        m = ahead;
    }

    private void come() {
        if (m.rooms == 0 || m.people.size() == 5) {
            Check.bad(x, "come()", done(d -> d.come(0)), m.rooms == 0 ? 1 : 4);
            return;
        }
        Model.Person p = new Model.Person();
        int room = luck.below(m.rooms);
        p.room = room;
        m.people.add(p);
        Check.good(x, "come()", done(d -> d.come(room)), m.people.size() - 1);
    }

    private void act() {
        int p = luck.below(m.people.size());
        int d = luck.below(m.doors.size());
        int sound = luck.below(4);
        boolean open = m.doors.get(d)[3] == 1;
        int kind = luck.below(4);
        boolean can = m.at(p, d) && open == (kind != 1);
        if (kind == 0 || kind == 3) {
            int got = done(o -> o.close(p, d, sound));
            if (can) {
                Check.good(x, "close()", got, m.close(p, d, sound));
            } else {
                Check.bad(x, "close()", got, 7);
            }
        } else if (kind == 1) {
            int got = done(o -> o.open(p, d));
            if (can) {
                m.doors.get(d)[3] = 1;
                Check.good(x, "open()", got, Integer.bitCount(m.openSet()));
            } else {
                Check.bad(x, "open()", got, 7);
            }
        } else {
            int got = done(o -> o.go(p, d));
            if (can) {
                m.people.get(p).room = m.doors.get(d)[0] + m.doors.get(d)[1] - m.people.get(p).room;
                Check.good(x, "go()", got, m.people.get(p).room);
            } else {
                Check.bad(x, "go()", got, 7);
            }
        }
    }

    private void alter(int kind) {
        int p = luck.below(m.people.size());
        Model.Person one = m.people.get(p);
        if (kind == 8) {
            int d = luck.below(m.doors.size());
            int old = m.doors.get(d)[2];
            int baize = luck.below(10);
            m.doors.get(d)[2] = baize;
            Check.good(x, "line()", done(o -> o.line(d, baize)), old);
        } else if (kind == 9) {
            int old = one.deaf;
            int deaf = luck.below(10);
            one.deaf = deaf;
            Check.good(x, "deafen()", done(d -> d.deafen(p, deaf)), old);
        } else if (kind == 10) {
            int got = done(d -> d.forget(p));
            if (one.heard.isEmpty()) {
                Check.bad(x, "forget()", got, 7);
            } else {
                Check.good(x, "forget()", got, one.heard.size());
            }
            one.heard.clear();
        } else {
            coinAndTeach(p, one);
        }
    }

    private void coinAndTeach(int p, Model.Person one) {
        List<Integer> word = new ArrayList<>();
        int[] numbers = new int[1 + luck.below(4)];
        for (int i = 0; i < numbers.length; i++) {
            numbers[i] = luck.below(3);
            word.add(numbers[i]);
        }
        int got = done(d -> {
            Check.fill(d, 0, numbers);
            return d.coin(0, numbers.length);
        });
        if (m.words.size() == 7) {
            Check.bad(x, "coin()", got, 4);
        } else if (m.words.contains(word)) {
            Check.bad(x, "coin()", got, 7);
        } else {
            m.words.add(word);
            Check.good(x, "coin()", got, m.words.size() - 1);
        }
        int w = luck.below(m.words.size());
        boolean is = luck.once(2);
        boolean can = (one.knows >> w & 1) != (is ? 1 : 0);
        boolean taught = done(d -> d.teach(p, w, is) ? 1 : 0) == 1;
        if (can) {
            one.knows ^= 1 << w;
            Check.good(x, "teach()", taught);
        } else {
            Check.bad(x, "teach()", taught, 7);
        }
    }
}
