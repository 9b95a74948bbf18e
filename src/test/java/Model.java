import java.math.BigInteger;
import java.util.ArrayList;
import java.util.List;

/** The document's house once more, by going through all that there is, however long that takes. */
final class Model {
    static final int[] LOUD = {9, 6, 3, 1};
    static final String[] SOUND = {"slam", "shut", "latch", "ajar"};

    int rooms;
    int odds = 4;
    int made;
    final List<int[]> doors = new ArrayList<>();
    final List<List<Integer>> words = new ArrayList<>();
    final List<Person> people = new ArrayList<>();

    static final class Person {
        int room;
        int deaf;
        int knows;
        final List<Integer> heard = new ArrayList<>();
    }

    Model copy() {
        Model m = new Model();
        m.rooms = rooms;
        m.odds = odds;
        m.made = made;
        for (int[] d : doors) {
            m.doors.add(d.clone());
        }
        m.words.addAll(words);
        for (Person p : people) {
            Person q = new Person();
            q.room = p.room;
            q.deaf = p.deaf;
            q.knows = p.knows;
            q.heard.addAll(p.heard);
            m.people.add(q);
        }
        return m;
    }

    int openSet() {
        int set = 0;
        for (int d = 0; d < doors.size(); d++) {
            set |= doors.get(d)[3] << d;
        }
        return set;
    }

    boolean at(int person, int door) {
        int room = people.get(person).room;
        return doors.get(door)[0] == room || doors.get(door)[1] == room;
    }

    /** The least cost of all ways that come to no room twice, or a very great number. */
    int loss(int from, int to, int without, int more, int been) {
        if (from == to) {
            return 0;
        }
        int best = 1000;
        for (int d = 0; d < doors.size(); d++) {
            int[] door = doors.get(d);
            if (d != without && (door[0] == from || door[1] == from)) {
                int next = door[0] + door[1] - from;
                if ((been >> next & 1) == 0) {
                    int cost = door[3] == 1 ? 1 : 2 + Math.min(9, door[2] + more);
                    best = Math.min(best, cost + loss(next, to, without, more, been | 1 << next));
                }
            }
        }
        return best;
    }

    boolean wouldHear(int person, int door, int sound, int more) {
        Person p = people.get(person);
        for (int end = 0; end < 2; end++) {
            int room = doors.get(door)[end];
            if (LOUD[sound] - loss(room, p.room, door, more, 1 << room) > p.deaf) {
                return true;
            }
        }
        return false;
    }

    int hearers(int door, int sound, int maker) {
        int set = 0;
        for (int p = 0; p < people.size(); p++) {
            if (p != maker && wouldHear(p, door, sound, 0)) {
                set |= 1 << p;
            }
        }
        return set;
    }

    int hush(int door, int sound, int person) {
        int more = 0;
        while (more < 10 && wouldHear(person, door, sound, more)) {
            more++;
        }
        return more < 10 ? more : -1;
    }

    int secret(int person, int to, int but, int sound) {
        for (int d = 0; d < doors.size(); d++) {
            int[] door = doors.get(d);
            int room = people.get(person).room;
            boolean near = !allWays(room, door[0], 1 << room).isEmpty() || !allWays(room, door[1], 1 << room).isEmpty();
            int set = hearers(d, sound, -1);
            if (door[3] == 1 && near && (set >> to & 1) == 1 && (set >> but & 1) == 0) {
                return d;
            }
        }
        return -1;
    }

    int close(int person, int door, int sound) {
        int set = hearers(door, sound, person);
        for (int p = 0; p < people.size(); p++) {
            if ((set >> p & 1) == 1) {
                people.get(p).heard.add(sound);
                if (people.get(p).heard.size() > 8) {
                    people.get(p).heard.remove(0);
                }
            }
        }
        made++;
        if (sound != 3) {
            doors.get(door)[3] = 0;
        }
        return set;
    }

    /** All readings, each a row of words. */
    List<List<Integer>> readings(List<Integer> row, int knows) {
        List<List<Integer>> all = new ArrayList<>();
        if (row.isEmpty()) {
            all.add(new ArrayList<>());
            return all;
        }
        for (int w = words.size() - 1; w >= 0; w--) {
            List<Integer> word = words.get(w);
            if ((knows >> w & 1) == 1 && word.size() <= row.size() && row.subList(0, word.size()).equals(word)) {
                for (List<Integer> rest : readings(row.subList(word.size(), row.size()), knows)) {
                    List<Integer> reading = new ArrayList<>(List.of(w));
                    reading.addAll(rest);
                    all.add(reading);
                }
            }
        }
        return all;
    }

    static int compare(List<Integer> one, List<Integer> other) {
        for (int i = 0; i < Math.min(one.size(), other.size()); i++) {
            if (!one.get(i).equals(other.get(i))) {
                return one.get(i) - other.get(i);
            }
        }
        return one.size() - other.size();
    }

    static List<Integer> least(List<List<Integer>> all) {
        List<Integer> best = null;
        for (List<Integer> one : all) {
            if (best == null || compare(one, best) < 0) {
                best = one;
            }
        }
        return best;
    }

    List<Integer> doubt(int knows) {
        for (int length = 1; length <= 7; length++) {
            for (int code = 0; code < 1 << 2 * length; code++) {
                List<Integer> row = new ArrayList<>();
                for (int k = length - 1; k >= 0; k--) {
                    row.add(code >> 2 * k & 3);
                }
                if (many(row, 0, knows) > 1) {
                    return row;
                }
            }
        }
        return null;
    }

    private int many(List<Integer> row, int at, int knows) {
        if (at == row.size()) {
            return 1;
        }
        int count = 0;
        for (int w = 0; w < words.size(); w++) {
            boolean fits = (knows >> w & 1) == 1 && at + words.get(w).size() <= row.size();
            for (int k = 0; fits && k < words.get(w).size(); k++) {
                fits = words.get(w).get(k).equals(row.get(at + k));
            }
            if (fits) {
                count += many(row, at + words.get(w).size(), knows);
            }
        }
        return count;
    }

    /** All ways by open doors that come to no room twice, as rows of rooms. */
    List<List<Integer>> allWays(int from, int to, int been) {
        List<List<Integer>> all = new ArrayList<>();
        if (from == to) {
            all.add(new ArrayList<>(List.of(to)));
            return all;
        }
        for (int[] door : doors) {
            if (door[3] == 1 && (door[0] == from || door[1] == from)) {
                int next = door[0] + door[1] - from;
                if ((been >> next & 1) == 0) {
                    for (List<Integer> rest : allWays(next, to, been | 1 << next)) {
                        rest.add(0, from);
                        all.add(rest);
                    }
                }
            }
        }
        return all;
    }

    List<Integer> way(int from, int to) {
        List<Integer> best = null;
        for (List<Integer> one : allWays(from, to, 1 << from)) {
            boolean better = best == null || one.size() < best.size();
            if (better || one.size() == best.size() && compare(one, best) < 0) {
                best = one;
            }
        }
        return best;
    }

    int part(int from, int openSet) {
        int set = 1 << from;
        for (int again = 0; again < rooms; again++) {
            for (int d = 0; d < doors.size(); d++) {
                int one = doors.get(d)[0];
                int other = doors.get(d)[1];
                if ((openSet >> d & 1) == 1 && (set >> one & 1) != (set >> other & 1)) {
                    set |= 1 << one | 1 << other;
                }
            }
        }
        return set;
    }

    int apartSet(int from, int to) {
        if (from == to) {
            return -1;
        }
        for (int many = 0; many <= doors.size(); many++) {
            for (int set = 0; set < 1 << doors.size(); set++) {
                if (Integer.bitCount(set) == many && (set & openSet()) == set
                        && (part(from, openSet() - set) >> to & 1) == 0) {
                    return set;
                }
            }
        }
        throw new IllegalStateException();
    }

    int together(int from, int to) {
        int best = -1;
        for (int set = 0; set < 1 << doors.size(); set++) {
            if ((set & openSet()) == 0 && (part(from, openSet() | set) >> to & 1) == 1
                    && (best < 0 || Integer.bitCount(set) < best)) {
                best = Integer.bitCount(set);
            }
        }
        return best;
    }

    boolean canHaveShut(int room, int openSet, List<Integer> row) {
        if (row.isEmpty()) {
            return true;
        }
        int[] door = doors.get(row.get(0));
        for (int end = 0; end < 2; end++) {
            if ((part(room, openSet) >> door[end] & 1) == 1
                    && canHaveShut(door[end], openSet & ~(1 << row.get(0)), row.subList(1, row.size()))) {
                return true;
            }
        }
        return false;
    }

    /** The number of rooms, with as many turns before and behind this one. */
    int game(int room, int openSet, int turn, int turns) {
        if (turn == turns) {
            return Integer.bitCount(part(room, openSet));
        }
        boolean shuts = turn % 2 == 0;
        int best = game(room, openSet, turn + 1, turns);
        for (int d = 0; d < doors.size(); d++) {
            if ((openSet >> d & 1) == (shuts ? 1 : 0)) {
                int then = game(room, openSet ^ 1 << d, turn + 1, turns);
                best = shuts ? Math.min(best, then) : Math.max(best, then);
            }
        }
        return best;
    }

    int move(int room, int turns) {
        int best = game(room, openSet(), 0, turns);
        for (int d = 0; d < doors.size(); d++) {
            if (doors.get(d)[3] == 1 && game(room, openSet() ^ 1 << d, 1, turns) == best) {
                return d;
            }
        }
        return -1;
    }

    /** Top and bottom, by all that can become of the sounds. */
    static long[] gale(int odds, int n, int k) {
        BigInteger top = BigInteger.ZERO;
        for (int set = 0; set < 1 << n; set++) {
            int drowned = Integer.bitCount(set);
            if (drowned >= k) {
                top = top.add(BigInteger.valueOf(odds).pow(drowned)
                    .multiply(BigInteger.valueOf(16 - odds).pow(n - drowned)));
            }
        }
        BigInteger bottom = BigInteger.valueOf(16).pow(n);
        BigInteger divisor = top.gcd(bottom);
        return new long[] {top.divide(divisor).longValueExact(), bottom.divide(divisor).longValueExact()};
    }
}
