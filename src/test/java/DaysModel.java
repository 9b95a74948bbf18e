import java.util.ArrayList;
import java.util.List;

/** DAYS as a tree, lived by going down it. */
final class DaysModel {
    static final class Step {
        final String kind;
        final int who;
        final int what;
        final int how;
        final String test;
        final List<Step> within = new ArrayList<>();

        Step(String kind, int who, int what, int how, String test) {
            this.kind = kind;
            this.who = who;
            this.what = what;
            this.how = how;
            this.test = test;
        }
    }

    private static final class Over extends RuntimeException {
        private static final long serialVersionUID = 1L;
    }

    private final Model house;
    private long draws;
    int done;
    int missed;
    int made;
    int caught;
    int gone;
    int left;

    private DaysModel(Model house, int seed) {
        this.house = house;
        this.draws = seed;
    }

    static DaysModel live(Model house, List<Step> steps, int seed) {
        DaysModel run = new DaysModel(house, seed);
        try {
            run.all(steps);
        } catch (Over over) {
            return run;
        }
        return run;
    }

    private void all(List<Step> steps) {
        for (Step step : steps) {
            if (done == 300) {
                left = 1;
                throw new Over();
            }
            done++;
            if (step.kind.equals("stop")) {
                throw new Over();
            } else if (step.kind.equals("when")) {
                if (holds(step)) {
                    all(step.within);
                }
            } else if (step.kind.equals("loop")) {
                for (int i = 0; i < step.what; i++) {
                    all(step.within);
                }
            } else if (!can(step)) {
                missed++;
            }
        }
    }

    private boolean holds(Step s) {
        switch (s.test) {
            case "in": return house.people.get(s.who).room == s.what;
            case "open": return house.doors.get(s.what)[3] == 1;
            case "<": return house.people.get(s.who).heard.size() < s.what;
            case ">": return house.people.get(s.who).heard.size() > s.what;
            default: return house.people.get(s.who).heard.size() == s.what;
        }
    }

    private boolean can(Step s) {
        if (s.kind.equals("any")) {
            return blow();
        }
        Model.Person p = house.people.get(s.who);
        if (s.kind.equals("forget")) {
            boolean any = !p.heard.isEmpty();
            p.heard.clear();
            return any;
        }
        int[] door = house.doors.get(s.what);
        boolean open = door[3] == 1;
        if (!house.at(s.who, s.what) || open == s.kind.equals("open")) {
            return false;
        }
        if (s.kind.equals("open")) {
            door[3] = 1;
        } else if (s.kind.equals("go")) {
            p.room = door[0] + door[1] - p.room;
            gone++;
        } else {
            made++;
            caught += Integer.bitCount(house.close(s.who, s.what, s.how));
        }
        return true;
    }

    private boolean blow() {
        int many = house.doors.size();
        if (many == 0) {
            return false;
        }
        draws = (draws * 3221 + 11449) % 65536;
        int door = (int) (draws / 8 % many);
        if (house.doors.get(door)[3] == 1) {
            made++;
            caught += Integer.bitCount(house.close(-1, door, 0));
        } else {
            house.doors.get(door)[3] = 1;
        }
        return true;
    }
}
