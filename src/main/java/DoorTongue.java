public final class DoorTongue {
    public static final int NONE = -1;

    private static final int CANNOT_BE = 1;
    private static final int MISSING = 2;
    private static final int NO_PLACE = 3;
    private static final int TOO_MANY = 4;
    private static final int BAD_IN_TRAY = 5;
    private static final int NONE_SUCH = 6;
    private static final int CANNOT_DO = 7;
    private static final int UNLIKE_SORTS = 8;
    private static final int FAULTY = 9;

    private static final int TRAYS = 4;
    private static final int MOST_IN_TRAY = 60;
    private static final int MOST_ON_TAPE = 900;
    private static final int MOST_IN_DAYS = 300;
    private static final int FED = 20;
    private static final int MOST_ROOMS = 7;
    private static final int MOST_DOORS = 10;
    private static final int MOST_WORDS = 7;
    private static final int MOST_PEOPLE = 5;
    private static final int MOST_SAID = 4;
    private static final int MOST_HEARD = 8;
    private static final int MOST_BAIZE = 9;
    private static final int MOST_DEAF = 9;
    private static final int MOST_ODDS = 16;
    private static final int FIRST_ODDS = 4;
    private static final int MOST_STEPS = 30;
    private static final int MOST_NESTED = 3;
    private static final int MOST_LOOPS = 99;
    private static final int MOST_DONE = 300;
    private static final int MOST_MARKS = 3;
    private static final int MOST_SEED = 9999;
    private static final int MOST_LIVES = 20;
    private static final int MOST_MEANT = 20;
    private static final int MOST_UNSAID = 6;
    private static final int MOST_ROW = 24;
    private static final int MOST_DOUBT = 7;
    private static final int MOST_TURNS = 4;
    private static final int MOST_TOLD_DOORS = 6;
    private static final int MOST_GALE = 12;

    // SOUNDS from 0 on: slam, shut, latch, ajar.
    private static final int SOUNDS = 4;
    private static final int SLAM = 0;
    private static final int AJAR = 3;

    // A word's place in this text is its number in the constants below.
    private static final String KEYWORDS =
        "odds room door baize open word says slam shut latch ajar person in deaf knows close go forget any when heard loop end stop ";
    private static final int ODDS_WORD = 0;
    private static final int ROOM_WORD = 1;
    private static final int DOOR_WORD = 2;
    private static final int BAIZE_WORD = 3;
    private static final int OPEN_WORD = 4;
    private static final int WORD_WORD = 5;
    private static final int SAYS_WORD = 6;
    private static final int SLAM_WORD = 7;
    private static final int PERSON_WORD = 11;
    private static final int IN_WORD = 12;
    private static final int DEAF_WORD = 13;
    private static final int KNOWS_WORD = 14;
    private static final int CLOSE_WORD = 15;
    private static final int GO_WORD = 16;
    private static final int FORGET_WORD = 17;
    private static final int ANY_WORD = 18;
    private static final int WHEN_WORD = 19;
    private static final int HEARD_WORD = 20;
    private static final int LOOP_WORD = 21;
    private static final int END_WORD = 22;
    private static final int STOP_WORD = 23;

    private int status;
    private long top;
    private long bottom;
    private final Tray[] trays;
    private final Tape tape;
    private House house;
    private House draftHouse;
    private Days days;
    private Days draftDays;
    private final House[] markedHouses;
    private final Days[] markedDays;
    private int marks;
    private final HouseReader houseReader;
    private final DaysReader daysReader;
    private final Hearing hearing;
    private final Meaning meaning;
    private final Ways ways;
    private final Runner runner;
    private final int[] livedLatest;

    public DoorTongue() {
        status = 0;
        top = 0L;
        bottom = 1L;
        trays = new Tray[TRAYS];
        for (int i = 0; i < TRAYS; i++) {
            trays[i] = new Tray();
        }
        tape = new Tape();
        house = new House();
        draftHouse = new House();
        days = new Days();
        draftDays = new Days();
        markedHouses = new House[MOST_MARKS];
        markedDays = new Days[MOST_MARKS];
        for (int i = 0; i < MOST_MARKS; i++) {
            markedHouses[i] = new House();
            markedDays[i] = new Days();
        }
        marks = 0;
        houseReader = new HouseReader();
        daysReader = new DaysReader();
        hearing = new Hearing();
        meaning = new Meaning();
        ways = new Ways();
        runner = new Runner();
        livedLatest = new int[5];
        livedLatest[0] = NONE;
    }

    public int status() {
        return status;
    }

    public long top() {
        return top;
    }

    public long bottom() {
        return bottom;
    }

    // ---- TRAYS

    public boolean tray(int tray, int sort, int many) {
        if (!isTray(tray) || !within(sort, 0, 3) || !within(many, 0, MOST_IN_TRAY)) {
            return refuse(CANNOT_BE);
        }
        trays[tray].layOut(sort, many);
        return agree();
    }

    public boolean write(int tray, int place, long v) {
        int wrong = placeStatus(tray, place);
        if (wrong != 0) {
            return refuse(wrong);
        }
        trays[tray].put(place, v);
        return agree();
    }

    public long read(int tray, int place) {
        int wrong = placeStatus(tray, place);
        if (wrong != 0) {
            return fail(wrong);
        }
        status = 0;
        return trays[tray].numbers[place];
    }

    public boolean pour(int from, int place, int to, int at, int many) {
        if (!isTray(from) || !isTray(to) || place < 0 || at < 0 || many < 0) {
            return refuse(CANNOT_BE);
        }
        Tray giver = trays[from];
        Tray taker = trays[to];
        if (!giver.there || !taker.there) {
            return refuse(MISSING);
        }
        if (giver.sort != taker.sort) {
            return refuse(UNLIKE_SORTS);
        }
        if (!giver.hasRun(place, many) || !taker.hasRun(at, many)) {
            return refuse(NO_PLACE);
        }
        System.arraycopy(giver.numbers, place, taker.numbers, at, many);
        return agree();
    }

    // ---- texts

    public int feed(int a, int b, int c, int d, int e) {
        if (tape.many + FED > MOST_ON_TAPE) {
            return NONE;
        }
        tape.append(a);
        tape.append(b);
        tape.append(c);
        tape.append(d);
        tape.append(e);
        return tape.many;
    }

    public int house(int n) {
        if (!within(n, 0, tape.many)) {
            return fail(CANNOT_BE);
        }
        boolean taken = houseReader.readInto(draftHouse, tape.bytes, n);
        tape.many = 0;
        tape.tellFault(houseReader.tokens);
        if (!taken) {
            return fail(FAULTY);
        }
        House old = house;
        house = draftHouse;
        draftHouse = old;
        days.clear();
        return answer(house.people);
    }

    public int days(int n) {
        if (!within(n, 0, tape.many) || n > MOST_IN_DAYS) {
            return fail(CANNOT_BE);
        }
        boolean taken = daysReader.readInto(draftDays, house, tape.bytes, n);
        tape.many = 0;
        tape.tellFault(daysReader.tokens);
        if (!taken) {
            return fail(FAULTY);
        }
        Days old = days;
        days = draftDays;
        draftDays = old;
        return answer(days.steps);
    }

    public int fault(int what) {
        if (what == 0) {
            return tape.faultKind;
        }
        return what == 1 ? tape.faultPlace : NONE;
    }

    public int told(int what) {
        switch (what) {
            case 0: return answer(house.rooms);
            case 1: return answer(house.doors);
            case 2: return answer(house.words);
            case 3: return answer(house.people);
            case 4: return answer(house.odds);
            case 5: return answer(house.openSet);
            case 6: return answer(house.made);
            default: return fail(CANNOT_BE);
        }
    }

    public int door(int door, int what) {
        if (!house.hasDoor(door)) {
            return fail(CANNOT_BE);
        }
        switch (what) {
            case 0: return answer(house.oneRoom[door]);
            case 1: return answer(house.otherRoom[door]);
            case 2: return answer(house.baize[door]);
            case 3: return answer(house.isOpen(door) ? 1 : 0);
            default: return fail(CANNOT_BE);
        }
    }

    public int says(int word) {
        if (!house.hasWord(word)) {
            return fail(CANNOT_BE);
        }
        return answer(house.wordLength[word]);
    }

    public int saysAt(int word, int k) {
        if (!house.hasWord(word) || k < 0) {
            return fail(CANNOT_BE);
        }
        if (k >= house.wordLength[word]) {
            return fail(NONE_SUCH);
        }
        return answer(house.soundOfWord(word, k));
    }

    public int person(int person, int what) {
        if (!house.hasPerson(person)) {
            return fail(CANNOT_BE);
        }
        switch (what) {
            case 0: return answer(house.roomOf[person]);
            case 1: return answer(house.deafness[person]);
            case 2: return answer(house.knownBy[person]);
            case 3: return answer(house.heardMany[person]);
            default: return fail(CANNOT_BE);
        }
    }

    public int heardAt(int person, int k) {
        if (!house.hasPerson(person) || k < 0) {
            return fail(CANNOT_BE);
        }
        if (k >= house.heardMany[person]) {
            return fail(NONE_SUCH);
        }
        return answer(house.heardRow[person * MOST_HEARD + k]);
    }

    // ---- what is done

    public int close(int person, int door, int sound) {
        if (!house.hasPerson(person) || !house.hasDoor(door) || !isSound(sound)) {
            return fail(CANNOT_BE);
        }
        if (!house.isAt(person, door) || !house.isOpen(door)) {
            return fail(CANNOT_DO);
        }
        return answer(hearing.shutWith(house, person, door, sound));
    }

    public int open(int person, int door) {
        if (!house.hasPerson(person) || !house.hasDoor(door)) {
            return fail(CANNOT_BE);
        }
        if (!house.isAt(person, door) || house.isOpen(door)) {
            return fail(CANNOT_DO);
        }
        house.unshut(door);
        return answer(Integer.bitCount(house.openSet));
    }

    public int go(int person, int door) {
        if (!house.hasPerson(person) || !house.hasDoor(door)) {
            return fail(CANNOT_BE);
        }
        if (!house.isAt(person, door) || !house.isOpen(door)) {
            return fail(CANNOT_DO);
        }
        house.passThrough(person, door);
        return answer(house.roomOf[person]);
    }

    public int forget(int person) {
        if (!house.hasPerson(person)) {
            return fail(CANNOT_BE);
        }
        int many = house.heardMany[person];
        if (many == 0) {
            return fail(CANNOT_DO);
        }
        house.heardMany[person] = 0;
        return answer(many);
    }

    public boolean teach(int person, int word, boolean is) {
        if (!house.hasPerson(person) || !house.hasWord(word)) {
            return refuse(CANNOT_BE);
        }
        if (contains(house.knownBy[person], word) == is) {
            return refuse(CANNOT_DO);
        }
        house.knownBy[person] ^= 1 << word;
        return agree();
    }

    public int coin(int tray, int n) {
        int wrong = within(n, 1, MOST_SAID) ? runStatus(tray, n) : CANNOT_BE;
        if (wrong != 0) {
            return fail(wrong);
        }
        if (house.words >= MOST_WORDS) {
            return fail(TOO_MANY);
        }
        if (!trays[tray].allBelow(n, SOUNDS)) {
            return fail(BAD_IN_TRAY);
        }
        house.beginWord();
        for (int i = 0; i < n; i++) {
            house.addSound(trays[tray].smallNumber(i));
        }
        if (house.isNewWordSaid()) {
            return fail(CANNOT_DO);
        }
        house.words++;
        return answer(house.words - 1);
    }

    public int come(int room) {
        if (!house.hasRoom(room)) {
            return fail(CANNOT_BE);
        }
        if (house.people >= MOST_PEOPLE) {
            return fail(TOO_MANY);
        }
        house.addPerson(0L, room);
        return answer(house.people - 1);
    }

    public int line(int door, int baize) {
        if (!house.hasDoor(door) || !within(baize, 0, MOST_BAIZE)) {
            return fail(CANNOT_BE);
        }
        int old = house.baize[door];
        house.baize[door] = baize;
        return answer(old);
    }

    public int deafen(int person, int deaf) {
        if (!house.hasPerson(person) || !within(deaf, 0, MOST_DEAF)) {
            return fail(CANNOT_BE);
        }
        int old = house.deafness[person];
        house.deafness[person] = deaf;
        return answer(old);
    }

    public boolean rule(int odds) {
        if (!within(odds, 0, MOST_ODDS)) {
            return refuse(CANNOT_BE);
        }
        house.odds = odds;
        return agree();
    }

    // ---- what is HEARD

    public int loss(int room, int other) {
        if (!house.hasRoom(room) || !house.hasRoom(other)) {
            return fail(CANNOT_BE);
        }
        return found(hearing.lossBetween(house, room, other));
    }

    public int hearers(int door, int sound) {
        if (!house.hasDoor(door) || !isSound(sound)) {
            return fail(CANNOT_BE);
        }
        return answer(hearing.hearersOf(house, door, sound, NONE));
    }

    public int hears(int person, int sound) {
        if (!house.hasPerson(person) || !isSound(sound)) {
            return fail(CANNOT_BE);
        }
        return answer(hearing.doorsHeard(house, person, sound));
    }

    public int hush(int door, int sound, int person) {
        if (!house.hasDoor(door) || !isSound(sound) || !house.hasPerson(person)) {
            return fail(CANNOT_BE);
        }
        return found(hearing.baizeToHush(house, door, sound, person));
    }

    public int secret(int person, int to, int but, int sound) {
        if (!areTwo(person, to) || !areTwo(person, but) || !areTwo(to, but) || !isSound(sound)) {
            return fail(CANNOT_BE);
        }
        return found(hearing.secretDoor(house, person, to, but, sound));
    }

    // ---- what it means

    public int readings(int person) {
        if (!house.hasPerson(person)) {
            return fail(CANNOT_BE);
        }
        meaning.loadHeard(house, person);
        return answer(meaning.countReadings(house, house.knownBy[person]));
    }

    public int first(int person) {
        if (!house.hasPerson(person)) {
            return fail(CANNOT_BE);
        }
        meaning.loadHeard(house, person);
        return found(meaning.wordsOfFirst(house, house.knownBy[person]));
    }

    public int firstAt(int person, int k) {
        if (!house.hasPerson(person) || k < 0) {
            return fail(CANNOT_BE);
        }
        meaning.loadHeard(house, person);
        return found(meaning.wordOfFirst(house, house.knownBy[person], k));
    }

    public int means(int person, int tray, int n) {
        boolean can = house.hasPerson(person) && within(n, 0, MOST_MEANT);
        int wrong = can ? runStatus(tray, n) : CANNOT_BE;
        if (wrong != 0) {
            return fail(wrong);
        }
        if (!trays[tray].allBelow(n, SOUNDS)) {
            return fail(BAD_IN_TRAY);
        }
        meaning.beginRow();
        for (int i = 0; i < n; i++) {
            meaning.addSound(trays[tray].smallNumber(i));
        }
        return answer(meaning.countReadings(house, house.knownBy[person]));
    }

    public int unsaid(int person, int tray, int n) {
        boolean can = house.hasPerson(person) && within(n, 0, MOST_UNSAID);
        int wrong = can ? runStatus(tray, n) : CANNOT_BE;
        if (wrong != 0) {
            return fail(wrong);
        }
        if (!trays[tray].allBelow(n, house.words)) {
            return fail(BAD_IN_TRAY);
        }
        meaning.beginRow();
        for (int i = 0; i < n; i++) {
            meaning.addWord(house, trays[tray].smallNumber(i));
        }
        return answer(meaning.countReadings(house, house.knownBy[person]));
    }

    public int doubt(int person) {
        if (!house.hasPerson(person)) {
            return fail(CANNOT_BE);
        }
        return found(meaning.findDoubt(house, house.knownBy[person]));
    }

    public int doubtAt(int person, int k) {
        if (!house.hasPerson(person) || k < 0) {
            return fail(CANNOT_BE);
        }
        int many = meaning.findDoubt(house, house.knownBy[person]);
        return found(k < many ? meaning.soundAt(k) : NONE);
    }

    public int shared(int person, int other) {
        if (!areTwo(person, other)) {
            return fail(CANNOT_BE);
        }
        return answer(meaning.wordsShared(house, house.knownBy[person], house.knownBy[other]));
    }

    // ---- ways

    public int far(int room, int other) {
        if (!house.hasRoom(room) || !house.hasRoom(other)) {
            return fail(CANNOT_BE);
        }
        return found(Ways.distance(house, room, other));
    }

    public int way(int room, int other, int k) {
        if (!house.hasRoom(room) || !house.hasRoom(other) || k < 0) {
            return fail(CANNOT_BE);
        }
        return found(Ways.roomOnWay(house, room, other, k));
    }

    public int part(int room) {
        if (!house.hasRoom(room)) {
            return fail(CANNOT_BE);
        }
        return answer(Ways.reach(house, house.openSet, 1 << room));
    }

    public int apart(int person, int other) {
        if (!areTwo(person, other)) {
            return fail(CANNOT_BE);
        }
        int doors = Ways.doorsThatPart(house, house.roomOf[person], house.roomOf[other]);
        return found(doors == NONE ? NONE : Integer.bitCount(doors));
    }

    public int apartSet(int person, int other) {
        if (!areTwo(person, other)) {
            return fail(CANNOT_BE);
        }
        return found(Ways.doorsThatPart(house, house.roomOf[person], house.roomOf[other]));
    }

    public int together(int person, int other) {
        if (!areTwo(person, other)) {
            return fail(CANNOT_BE);
        }
        return found(Ways.doorsToJoin(house, house.roomOf[person], house.roomOf[other]));
    }

    public int culprits(int tray, int n) {
        int wrong = within(n, 0, MOST_TOLD_DOORS) ? runStatus(tray, n) : CANNOT_BE;
        if (wrong != 0) {
            return fail(wrong);
        }
        if (!areOpenDoors(trays[tray], n)) {
            return fail(BAD_IN_TRAY);
        }
        int set = 0;
        for (int p = 0; p < house.people; p++) {
            if (Ways.canShutAll(house, house.roomOf[p], trays[tray], n)) {
                set |= 1 << p;
            }
        }
        return answer(set);
    }

    // ---- games, odds

    public int game(int person, int n) {
        if (!house.hasPerson(person) || !within(n, 0, MOST_TURNS)) {
            return fail(CANNOT_BE);
        }
        return answer(ways.outcome(house, house.roomOf[person], n));
    }

    public int moveOf(int person, int n) {
        if (!house.hasPerson(person) || !within(n, 1, MOST_TURNS)) {
            return fail(CANNOT_BE);
        }
        return found(ways.bestMove(house, house.roomOf[person], n));
    }

    public boolean gale(int n, int k) {
        if (!within(n, 0, MOST_GALE) || !within(k, 0, MOST_GALE)) {
            return refuse(CANNOT_BE);
        }
        long drowned = 0L;
        long choices = 1L;
        for (int j = 0; j <= n; j++) {
            if (j >= k) {
                drowned += choices * power(house.odds, j) * power(MOST_ODDS - house.odds, n - j);
            }
            choices = choices * (n - j) / (j + 1);
        }
        tellFraction(drowned, power(MOST_ODDS, n));
        return agree();
    }

    public int copyRooms(int tray) {
        int wrong = runStatus(tray, house.people);
        if (wrong != 0) {
            return fail(wrong);
        }
        for (int p = 0; p < house.people; p++) {
            trays[tray].put(p, house.roomOf[p]);
        }
        return answer(house.people);
    }

    // ---- DAYS

    public int live(int seed) {
        if (!within(seed, 0, MOST_SEED)) {
            return fail(CANNOT_BE);
        }
        if (!days.there) {
            return fail(NONE_SUCH);
        }
        runner.run(house, days, hearing, seed);
        livedLatest[0] = runner.missed;
        livedLatest[1] = runner.made;
        livedLatest[2] = runner.caught;
        livedLatest[3] = runner.passed;
        livedLatest[4] = runner.cut ? 1 : 0;
        return answer(runner.done);
    }

    public int lived(int what) {
        if (!within(what, 0, livedLatest.length - 1)) {
            return fail(CANNOT_BE);
        }
        if (livedLatest[0] == NONE) {
            return fail(NONE_SUCH);
        }
        return answer(livedLatest[what]);
    }

    public boolean mean(int seed, int many) {
        if (!within(seed, 0, MOST_SEED) || !within(many, 1, MOST_LIVES)
                || seed + many - 1 > MOST_SEED) {
            return refuse(CANNOT_BE);
        }
        if (!days.there) {
            return refuse(NONE_SUCH);
        }
        long opened = 0L;
        for (int i = 0; i < many; i++) {
            draftHouse.copyFrom(house);
            runner.run(draftHouse, days, hearing, seed + i);
            opened += Integer.bitCount(draftHouse.openSet);
        }
        tellFraction(opened, many);
        return agree();
    }

    // ---- MARKS

    public int mark() {
        if (marks >= MOST_MARKS) {
            return fail(TOO_MANY);
        }
        markedHouses[marks].copyFrom(house);
        markedDays[marks].copyFrom(days);
        marks++;
        return answer(marks);
    }

    public int undo() {
        if (marks <= 0) {
            return fail(NONE_SUCH);
        }
        marks--;
        house.copyFrom(markedHouses[marks]);
        days.copyFrom(markedDays[marks]);
        return answer(marks);
    }

    // ---- what calls share

    private int answer(int value) {
        status = 0;
        return value;
    }

    private int fail(int why) {
        status = why;
        return NONE;
    }

    // For answers of which NONE says that there is none such.
    private int found(int value) {
        return value == NONE ? fail(NONE_SUCH) : answer(value);
    }

    private boolean agree() {
        status = 0;
        return true;
    }

    private boolean refuse(int why) {
        status = why;
        return false;
    }

    private boolean areTwo(int person, int other) {
        return house.hasPerson(person) && house.hasPerson(other) && person != other;
    }

    private int placeStatus(int tray, int place) {
        if (!isTray(tray)) {
            return CANNOT_BE;
        }
        if (!trays[tray].there) {
            return MISSING;
        }
        return within(place, 0, trays[tray].many - 1) ? 0 : NO_PLACE;
    }

    private int runStatus(int tray, int n) {
        if (!isTray(tray)) {
            return CANNOT_BE;
        }
        if (!trays[tray].there) {
            return MISSING;
        }
        return trays[tray].hasRun(0, n) ? 0 : NO_PLACE;
    }

    private boolean areOpenDoors(Tray tray, int n) {
        if (!tray.allBelow(n, house.doors)) {
            return false;
        }
        int left = house.openSet;
        for (int i = 0; i < n; i++) {
            int told = tray.smallNumber(i);
            if (!contains(left, told)) {
                return false;
            }
            left ^= 1 << told;
        }
        return true;
    }

    private void tellFraction(long over, long under) {
        long divisor = commonDivisor(over, under);
        if (divisor > 0L) {
            top = over / divisor;
            bottom = under / divisor;
        }
    }

    private static boolean isTray(int tray) {
        return within(tray, 0, TRAYS - 1);
    }

    private static boolean isSound(int sound) {
        return within(sound, 0, SOUNDS - 1);
    }

    private static boolean within(int value, int least, int most) {
        return value >= least && value <= most;
    }

    private static boolean contains(int set, int member) {
        return (set >> member & 1) == 1;
    }

    private static long power(int base, int exponent) {
        long product = 1L;
        for (int i = 0; i < exponent; i++) {
            product *= base;
        }
        return product;
    }

    private static long commonDivisor(long one, long other) {
        long a = one;
        long b = other;
        for (int i = 0; i < 1000 && b != 0L; i++) {
            long rest = a % b;
            a = b;
            b = rest;
        }
        return a;
    }

    private static final class Tray {
        boolean there;
        int sort;
        int many;
        final long[] numbers = new long[MOST_IN_TRAY];

        void layOut(int newSort, int newMany) {
            there = true;
            sort = newSort;
            many = newMany;
            for (int i = 0; i < numbers.length; i++) {
                numbers[i] = 0L;
            }
        }

        void put(int place, long value) {
            if (place < 0 || place >= many) {
                return;
            }
            switch (sort) {
                case 0: numbers[place] = (byte) value; break;
                case 1: numbers[place] = (short) value; break;
                case 2: numbers[place] = (int) value; break;
                default: numbers[place] = value; break;
            }
        }

        // By longs, since place and n together can go beyond an int.
        boolean hasRun(int place, int n) {
            return place >= 0 && n >= 0 && (long) place + n <= many;
        }

        boolean allBelow(int n, int limit) {
            for (int i = 0; i < n; i++) {
                if (numbers[i] < 0L || numbers[i] >= limit) {
                    return false;
                }
            }
            return true;
        }

        // For numbers that allBelow() has looked at.
        int smallNumber(int place) {
            return (int) numbers[place];
        }
    }

    private static final class Tape {
        final byte[] bytes = new byte[MOST_ON_TAPE];
        int many;
        int faultKind = NONE;
        int faultPlace = NONE;

        void append(int four) {
            for (int shift = 24; shift >= 0 && many < bytes.length; shift -= 8) {
                bytes[many] = (byte) (four >> shift);
                many++;
            }
        }

        void tellFault(Tokens tokens) {
            faultKind = tokens.flawKind;
            faultPlace = tokens.flawPlace;
        }
    }

    // The HOUSE with all that became of it.
    private static final class House {
        int rooms;
        int doors;
        int words;
        int people;
        int odds = FIRST_ODDS;
        int openSet;
        int made;
        final long[] roomNames = new long[MOST_ROOMS];
        final long[] personNames = new long[MOST_PEOPLE];
        final int[] oneRoom = new int[MOST_DOORS];
        final int[] otherRoom = new int[MOST_DOORS];
        final int[] baize = new int[MOST_DOORS];
        final int[] wordLength = new int[MOST_WORDS];
        final int[] wordSounds = new int[MOST_WORDS * MOST_SAID];
        final int[] roomOf = new int[MOST_PEOPLE];
        final int[] deafness = new int[MOST_PEOPLE];
        final int[] knownBy = new int[MOST_PEOPLE];
        final int[] heardMany = new int[MOST_PEOPLE];
        final int[] heardRow = new int[MOST_PEOPLE * MOST_HEARD];

        void clear() {
            rooms = 0;
            doors = 0;
            words = 0;
            people = 0;
            odds = FIRST_ODDS;
            openSet = 0;
            made = 0;
        }

        void copyFrom(House other) {
            rooms = other.rooms;
            doors = other.doors;
            words = other.words;
            people = other.people;
            odds = other.odds;
            openSet = other.openSet;
            made = other.made;
            System.arraycopy(other.roomNames, 0, roomNames, 0, roomNames.length);
            System.arraycopy(other.personNames, 0, personNames, 0, personNames.length);
            System.arraycopy(other.oneRoom, 0, oneRoom, 0, oneRoom.length);
            System.arraycopy(other.otherRoom, 0, otherRoom, 0, otherRoom.length);
            System.arraycopy(other.baize, 0, baize, 0, baize.length);
            System.arraycopy(other.wordLength, 0, wordLength, 0, wordLength.length);
            System.arraycopy(other.wordSounds, 0, wordSounds, 0, wordSounds.length);
            System.arraycopy(other.roomOf, 0, roomOf, 0, roomOf.length);
            System.arraycopy(other.deafness, 0, deafness, 0, deafness.length);
            System.arraycopy(other.knownBy, 0, knownBy, 0, knownBy.length);
            System.arraycopy(other.heardMany, 0, heardMany, 0, heardMany.length);
            System.arraycopy(other.heardRow, 0, heardRow, 0, heardRow.length);
        }

        boolean hasRoom(int room) {
            return room >= 0 && room < rooms;
        }

        boolean hasDoor(int door) {
            return door >= 0 && door < doors;
        }

        boolean hasWord(int word) {
            return word >= 0 && word < words;
        }

        boolean hasPerson(int person) {
            return person >= 0 && person < people;
        }

        boolean isOpen(int door) {
            return contains(openSet, door);
        }

        boolean isAt(int person, int door) {
            if (!hasPerson(person) || !hasDoor(door)) {
                return false;
            }
            int room = roomOf[person];
            return room == oneRoom[door] || room == otherRoom[door];
        }

        int roomsOfDoor(int door) {
            return 1 << oneRoom[door] | 1 << otherRoom[door];
        }

        void unshut(int door) {
            openSet |= 1 << door;
        }

        void shutDoor(int door) {
            openSet &= ~(1 << door);
        }

        void passThrough(int person, int door) {
            roomOf[person] = roomOf[person] == oneRoom[door] ? otherRoom[door] : oneRoom[door];
        }

        int soundOfWord(int word, int k) {
            return wordSounds[word * MOST_SAID + k];
        }

        void addRoom(long name) {
            if (rooms < MOST_ROOMS) {
                roomNames[rooms] = name;
                rooms++;
            }
        }

        void addDoor(int one, int other, int itsBaize, boolean stands) {
            if (doors < MOST_DOORS) {
                oneRoom[doors] = one;
                otherRoom[doors] = other;
                baize[doors] = itsBaize;
                if (stands) {
                    unshut(doors);
                }
                doors++;
            }
        }

        void addPerson(long name, int room) {
            if (people < MOST_PEOPLE) {
                personNames[people] = name;
                roomOf[people] = room;
                deafness[people] = 0;
                knownBy[people] = 0;
                heardMany[people] = 0;
                people++;
            }
        }

        // A new WORD stands behind the others before it is counted as one of them.
        void beginWord() {
            if (words < MOST_WORDS) {
                wordLength[words] = 0;
            }
        }

        void addSound(int sound) {
            if (words < MOST_WORDS && wordLength[words] < MOST_SAID) {
                wordSounds[words * MOST_SAID + wordLength[words]] = sound;
                wordLength[words]++;
            }
        }

        boolean isNewWordSaid() {
            if (words >= MOST_WORDS) {
                return true;
            }
            for (int w = 0; w < words; w++) {
                if (wordLength[w] == wordLength[words] && saysTheNew(w)) {
                    return true;
                }
            }
            return false;
        }

        private boolean saysTheNew(int word) {
            for (int k = 0; k < wordLength[word]; k++) {
                if (soundOfWord(word, k) != soundOfWord(words, k)) {
                    return false;
                }
            }
            return true;
        }

        void catchSound(int person, int sound) {
            int start = person * MOST_HEARD;
            if (heardMany[person] >= MOST_HEARD) {
                for (int k = 1; k < MOST_HEARD; k++) {
                    heardRow[start + k - 1] = heardRow[start + k];
                }
                heardMany[person] = MOST_HEARD - 1;
            }
            heardRow[start + heardMany[person]] = sound;
            heardMany[person]++;
        }
    }

    // STEPS in a row, with the ends of when and loop among them.
    private static final class Days {
        boolean there;
        int steps;
        int length;
        final int[] kinds = new int[2 * MOST_STEPS];
        final int[] tests = new int[2 * MOST_STEPS];
        final int[] who = new int[2 * MOST_STEPS];
        final int[] what = new int[2 * MOST_STEPS];
        final int[] how = new int[2 * MOST_STEPS];
        // Of a when or a loop the place of its end, of an end that of its beginning.
        final int[] partner = new int[2 * MOST_STEPS];

        void clear() {
            there = false;
            steps = 0;
            length = 0;
        }

        void copyFrom(Days other) {
            there = other.there;
            steps = other.steps;
            length = other.length;
            System.arraycopy(other.kinds, 0, kinds, 0, kinds.length);
            System.arraycopy(other.tests, 0, tests, 0, tests.length);
            System.arraycopy(other.who, 0, who, 0, who.length);
            System.arraycopy(other.what, 0, what, 0, what.length);
            System.arraycopy(other.how, 0, how, 0, how.length);
            System.arraycopy(other.partner, 0, partner, 0, partner.length);
        }

        // The place of the new STEP (or end), or NONE if there is no place for it.
        int append(int kind) {
            if (length >= kinds.length) {
                return NONE;
            }
            kinds[length] = kind;
            length++;
            return length - 1;
        }
    }

    // The TOKEN of a text that is looked at, and the first FAULT.
    private static final class Tokens {
        private static final int OVER = 0;
        private static final int LETTERS = 1;
        private static final int NUMBER = 2;
        private static final int SIGN = 3;
        private static final int NO_TOKEN = 4;
        private static final int LONGEST_NAME = 8;
        private static final int LONGEST_NUMBER = 4;

        private byte[] text = new byte[0];
        private int length;
        private int start;
        private int end;
        private int kind;
        private int value;
        int keyword;
        long name;
        int flawKind;
        int flawPlace;

        void begin(byte[] newText, int newLength) {
            text = newText;
            length = Math.min(newLength, newText.length);
            end = 0;
            flawKind = 0;
            flawPlace = NONE;
            advance();
        }

        void advance() {
            start = end;
            while (start < length && (text[start] == 10 || text[start] == 32)) {
                start++;
            }
            end = start;
            kind = OVER;
            value = 0;
            keyword = NONE;
            name = 0L;
            if (start >= length) {
                return;
            }
            if (isRunOf('a', 'z')) {
                kind = LETTERS;
                keyword = findKeyword();
                name = keyword == NONE ? nameCode() : 0L;
            } else if (isRunOf('0', '9')) {
                kind = end - start <= LONGEST_NUMBER ? NUMBER : NO_TOKEN;
                value = kind == NUMBER ? numberValue() : 0;
            } else {
                end = start + 1;
                value = text[start];
                kind = value == ';' || value == '<' || value == '>' || value == '=' ? SIGN : NO_TOKEN;
            }
        }

        // Puts the end behind the run, as long as it goes.
        private boolean isRunOf(char least, char most) {
            while (end < length && text[end] >= least && text[end] <= most) {
                end++;
            }
            return end > start;
        }

        // 0 for what is too long for a NAME: its code would run over.
        private long nameCode() {
            if (end - start > LONGEST_NAME) {
                return 0L;
            }
            long code = 0L;
            for (int i = start; i < end; i++) {
                code = code * 32L + (text[i] - 'a' + 1);
            }
            return code;
        }

        private int numberValue() {
            int number = 0;
            for (int i = start; i < end; i++) {
                number = number * 10 + (text[i] - '0');
            }
            return number;
        }

        private int findKeyword() {
            int number = 0;
            int at = start;
            boolean same = true;
            for (int i = 0; i < KEYWORDS.length(); i++) {
                char letter = KEYWORDS.charAt(i);
                if (letter == ' ') {
                    if (same && at == end) {
                        return number;
                    }
                    number++;
                    at = start;
                    same = true;
                } else if (same && at < end && text[at] == letter) {
                    at++;
                } else {
                    same = false;
                }
            }
            return NONE;
        }

        boolean isOver() {
            return kind == OVER;
        }

        boolean isName() {
            return name != 0L;
        }

        boolean isSign(char sign) {
            return kind == SIGN && value == sign;
        }

        // The words of the text for SOUNDS stand in their order.
        boolean isSoundWord() {
            return keyword >= SLAM_WORD && keyword < SLAM_WORD + SOUNDS;
        }

        // What begins no TOKEN is of the least kind, whatever else is wrong there.
        boolean flaw(int wrong) {
            flawKind = kind == NO_TOKEN ? 1 : wrong;
            flawPlace = start;
            return false;
        }

        boolean passSign(char sign) {
            if (!isSign(sign)) {
                return flaw(2);
            }
            advance();
            return true;
        }

        boolean passKeyword(int wanted) {
            if (keyword != wanted) {
                return flaw(2);
            }
            advance();
            return true;
        }

        int passNumber(int least, int most) {
            if (kind != NUMBER) {
                flaw(2);
                return NONE;
            }
            if (value < least || value > most) {
                flaw(4);
                return NONE;
            }
            int number = value;
            advance();
            return number;
        }

        int passSound() {
            if (!isSoundWord()) {
                flaw(2);
                return NONE;
            }
            int sound = keyword - SLAM_WORD;
            advance();
            return sound;
        }

        // Stays at the NAME, as there may be more wrong with it than that it is unknown.
        int findAmong(long[] names, int many) {
            if (!isName()) {
                flaw(2);
                return NONE;
            }
            int number = numberOf(names, many);
            if (number == NONE) {
                flaw(3);
            }
            return number;
        }

        int passAmong(long[] names, int many) {
            int number = findAmong(names, many);
            if (number != NONE) {
                advance();
            }
            return number;
        }

        int numberOf(long[] names, int many) {
            for (int i = 0; i < many && i < names.length; i++) {
                if (names[i] == name) {
                    return i;
                }
            }
            return NONE;
        }
    }

    private static final class HouseReader {
        final Tokens tokens = new Tokens();
        private final long[] wordNames = new long[MOST_WORDS];
        private boolean oddsTold;

        boolean readInto(House house, byte[] text, int length) {
            house.clear();
            oddsTold = false;
            tokens.begin(text, length);
            boolean fine = true;
            for (int i = 0; fine && i <= length && !tokens.isOver(); i++) {
                switch (tokens.keyword) {
                    case ODDS_WORD: fine = readOdds(house); break;
                    case ROOM_WORD: fine = readRoom(house); break;
                    case DOOR_WORD: fine = readDoor(house); break;
                    case WORD_WORD: fine = readWord(house); break;
                    case PERSON_WORD: fine = readPerson(house); break;
                    default: fine = tokens.flaw(2); break;
                }
            }
            return fine;
        }

        private boolean readOdds(House house) {
            if (oddsTold) {
                return tokens.flaw(5);
            }
            oddsTold = true;
            tokens.advance();
            int odds = tokens.passNumber(0, MOST_ODDS);
            if (odds == NONE) {
                return false;
            }
            house.odds = odds;
            return tokens.passSign(';');
        }

        private boolean readRoom(House house) {
            if (house.rooms >= MOST_ROOMS) {
                return tokens.flaw(6);
            }
            tokens.advance();
            long name = passNewName(house);
            if (name == 0L) {
                return false;
            }
            house.addRoom(name);
            return tokens.passSign(';');
        }

        private boolean readDoor(House house) {
            if (house.doors >= MOST_DOORS) {
                return tokens.flaw(6);
            }
            tokens.advance();
            int one = tokens.passAmong(house.roomNames, house.rooms);
            if (one == NONE) {
                return false;
            }
            int other = tokens.findAmong(house.roomNames, house.rooms);
            if (other == NONE) {
                return false;
            }
            if (other == one) {
                return tokens.flaw(5);
            }
            tokens.advance();
            int baize = readChoice(BAIZE_WORD, MOST_BAIZE);
            if (baize == NONE) {
                return false;
            }
            boolean stands = tokens.keyword == OPEN_WORD;
            if (stands) {
                tokens.advance();
            }
            house.addDoor(one, other, baize, stands);
            return tokens.passSign(';');
        }

        private boolean readWord(House house) {
            if (house.words >= MOST_WORDS) {
                return tokens.flaw(6);
            }
            tokens.advance();
            long name = passNewName(house);
            if (name == 0L || !tokens.passKeyword(SAYS_WORD) || !readSounds(house)) {
                return false;
            }
            if (tokens.isSign(';') && house.isNewWordSaid()) {
                return tokens.flaw(5);
            }
            wordNames[house.words] = name;
            house.words++;
            return tokens.passSign(';');
        }

        private boolean readSounds(House house) {
            house.beginWord();
            for (int i = 0; i < MOST_SAID && (i == 0 || tokens.isSoundWord()); i++) {
                int sound = tokens.passSound();
                if (sound == NONE) {
                    return false;
                }
                house.addSound(sound);
            }
            return !tokens.isSoundWord() || tokens.flaw(5);
        }

        private boolean readPerson(House house) {
            if (house.people >= MOST_PEOPLE) {
                return tokens.flaw(6);
            }
            tokens.advance();
            long name = passNewName(house);
            if (name == 0L || !tokens.passKeyword(IN_WORD)) {
                return false;
            }
            int room = tokens.passAmong(house.roomNames, house.rooms);
            if (room == NONE) {
                return false;
            }
            int deaf = readChoice(DEAF_WORD, MOST_DEAF);
            if (deaf == NONE) {
                return false;
            }
            int known = readKnown(house);
            if (known == NONE) {
                return false;
            }
            house.addPerson(name, room);
            house.deafness[house.people - 1] = deaf;
            house.knownBy[house.people - 1] = known;
            return tokens.passSign(';');
        }

        // A set, or NONE: no set of so few WORDS is as a number below 0.
        private int readKnown(House house) {
            if (tokens.keyword != KNOWS_WORD) {
                return 0;
            }
            tokens.advance();
            int known = 0;
            for (int i = 0; i <= MOST_WORDS && tokens.isName(); i++) {
                int word = tokens.findAmong(wordNames, house.words);
                if (word == NONE) {
                    return NONE;
                }
                if (contains(known, word)) {
                    tokens.flaw(5);
                    return NONE;
                }
                known |= 1 << word;
                tokens.advance();
            }
            return known;
        }

        // The NUMBER behind a word of the text that may be left out, and 0 is told then.
        private int readChoice(int word, int most) {
            if (tokens.keyword != word) {
                return 0;
            }
            tokens.advance();
            return tokens.passNumber(0, most);
        }

        // 0 where no new NAME stands.
        private long passNewName(House house) {
            if (!tokens.isName()) {
                tokens.flaw(2);
                return 0L;
            }
            if (isTaken(house)) {
                tokens.flaw(3);
                return 0L;
            }
            long name = tokens.name;
            tokens.advance();
            return name;
        }

        private boolean isTaken(House house) {
            return tokens.numberOf(house.roomNames, house.rooms) != NONE
                || tokens.numberOf(wordNames, house.words) != NONE
                || tokens.numberOf(house.personNames, house.people) != NONE;
        }
    }

    private static final class DaysReader {
        final Tokens tokens = new Tokens();
        private final int[] begun = new int[MOST_NESTED];
        private int nested;

        boolean readInto(Days days, House house, byte[] text, int length) {
            days.clear();
            nested = 0;
            tokens.begin(text, length);
            boolean fine = true;
            for (int i = 0; fine && i <= length && !tokens.isOver(); i++) {
                if (tokens.keyword == END_WORD) {
                    fine = readEnd(days);
                } else {
                    int at = beginStep(days);
                    fine = at != NONE && readTest(days, house, at) && readRest(days, house, at)
                        && tokens.passSign(';');
                }
            }
            days.there = fine;
            return fine && (nested == 0 || tokens.flaw(2));
        }

        private boolean readEnd(Days days) {
            if (nested <= 0) {
                return tokens.flaw(2);
            }
            nested--;
            int at = days.append(END_WORD);
            if (at == NONE) {
                return false;
            }
            days.partner[at] = begun[nested];
            days.partner[begun[nested]] = at;
            tokens.advance();
            return tokens.passSign(';');
        }

        // The place of the new STEP, or NONE if there can be none.
        private int beginStep(Days days) {
            int word = tokens.keyword;
            boolean nests = word == WHEN_WORD || word == LOOP_WORD;
            int wrong = 0;
            if (!isStepWord(word)) {
                wrong = 2;
            } else if (days.steps >= MOST_STEPS) {
                wrong = 6;
            } else if (nests && nested >= MOST_NESTED) {
                wrong = 7;
            }
            if (wrong != 0) {
                tokens.flaw(wrong);
                return NONE;
            }
            int at = days.append(word);
            days.steps++;
            if (nests) {
                begun[nested] = at;
                nested++;
            }
            tokens.advance();
            return at;
        }

        private static boolean isStepWord(int word) {
            return word == OPEN_WORD || word == WHEN_WORD || word == LOOP_WORD
                || word == STOP_WORD || within(word, CLOSE_WORD, ANY_WORD);
        }

        private boolean readRest(Days days, House house, int at) {
            switch (days.kinds[at]) {
                case CLOSE_WORD:
                    return readWho(days, house, at) && readWhat(days, at, 0, house.doors - 1)
                        && readSound(days, at);
                case OPEN_WORD:
                case GO_WORD:
                    return readWho(days, house, at) && readWhat(days, at, 0, house.doors - 1);
                case FORGET_WORD:
                    return readWho(days, house, at);
                case LOOP_WORD:
                    return readWhat(days, at, 1, MOST_LOOPS);
                default:
                    return true;
            }
        }

        // Reads nothing where the STEP is no when.
        private boolean readTest(Days days, House house, int at) {
            if (days.kinds[at] != WHEN_WORD) {
                return true;
            }
            int word = tokens.keyword;
            days.tests[at] = word;
            if (word != IN_WORD && word != OPEN_WORD && word != HEARD_WORD) {
                return tokens.flaw(2);
            }
            tokens.advance();
            switch (word) {
                case IN_WORD:
                    return readWho(days, house, at) && readRoomName(days, house, at);
                case OPEN_WORD:
                    return readWhat(days, at, 0, house.doors - 1);
                default:
                    return readWho(days, house, at) && readCompares(days, at)
                        && readWhat(days, at, 0, MOST_HEARD);
            }
        }

        private boolean readWho(Days days, House house, int at) {
            days.who[at] = tokens.passAmong(house.personNames, house.people);
            return days.who[at] != NONE;
        }

        private boolean readRoomName(Days days, House house, int at) {
            days.what[at] = tokens.passAmong(house.roomNames, house.rooms);
            return days.what[at] != NONE;
        }

        private boolean readWhat(Days days, int at, int least, int most) {
            days.what[at] = tokens.passNumber(least, most);
            return days.what[at] != NONE;
        }

        private boolean readSound(Days days, int at) {
            days.how[at] = tokens.passSound();
            return days.how[at] != NONE;
        }

        // As how, the sign of what Integer.compare() has to answer.
        private boolean readCompares(Days days, int at) {
            if (tokens.isSign('<')) {
                days.how[at] = -1;
            } else if (tokens.isSign('>')) {
                days.how[at] = 1;
            } else if (tokens.isSign('=')) {
                days.how[at] = 0;
            } else {
                return tokens.flaw(2);
            }
            tokens.advance();
            return true;
        }
    }

    private static final class Hearing {
        // More than any way can cost, and far from where sums run over.
        private static final int NO_WAY = 1000000;

        private static final int[] LOUD = {9, 6, 3, 1};

        private final int[] lost = new int[MOST_ROOMS];

        int lossBetween(House house, int room, int other) {
            spread(house, 1 << room, NONE, 0);
            return lost[other] < NO_WAY ? lost[other] : NONE;
        }

        // What is lost to each ROOM from the nearest of a set, by ways without a DOOR.
        private void spread(House house, int from, int without, int more) {
            for (int r = 0; r < lost.length; r++) {
                lost[r] = (from & 1 << r) != 0 ? 0 : NO_WAY;
            }
            boolean changed = true;
            for (int round = 0; round < MOST_ROOMS && changed; round++) {
                changed = false;
                for (int d = 0; d < house.doors; d++) {
                    boolean open = (house.openSet & 1 << d) != 0;
                    int cost = open ? 1 : 2 + Math.min(MOST_BAIZE, house.baize[d] + more);
                    int a = house.oneRoom[d];
                    int b = house.otherRoom[d];
                    if (d != without && Math.abs(lost[a] - lost[b]) > cost) {
                        lost[a] = Math.min(lost[a], lost[b] + cost);
                        lost[b] = Math.min(lost[b], lost[a] + cost);
                        changed = true;
                    }
                }
            }
        }

        // For a PERSON and a SOUND at the DOOR from which it was spread latest.
        private boolean comesTo(House house, int person, int sound) {
            return LOUD[sound] - lost[house.roomOf[person]] > house.deafness[person];
        }

        int hearersOf(House house, int door, int sound, int maker) {
            spread(house, house.roomsOfDoor(door), door, 0);
            int set = 0;
            for (int p = 0; p < house.people; p++) {
                if (p != maker && comesTo(house, p, sound)) {
                    set |= 1 << p;
                }
            }
            return set;
        }

        int doorsHeard(House house, int person, int sound) {
            int set = 0;
            for (int d = 0; d < house.doors; d++) {
                spread(house, house.roomsOfDoor(d), d, 0);
                if (comesTo(house, person, sound)) {
                    set |= 1 << d;
                }
            }
            return set;
        }

        int baizeToHush(House house, int door, int sound, int person) {
            for (int more = 0; more <= MOST_BAIZE; more++) {
                spread(house, house.roomsOfDoor(door), door, more);
                if (!comesTo(house, person, sound)) {
                    return more;
                }
            }
            return NONE;
        }

        int secretDoor(House house, int person, int to, int but, int sound) {
            int near = Ways.reach(house, house.openSet, 1 << house.roomOf[person]);
            for (int d = 0; d < house.doors; d++) {
                if (house.isOpen(d) && (near & house.roomsOfDoor(d)) != 0) {
                    spread(house, house.roomsOfDoor(d), d, 0);
                    if (comesTo(house, to, sound) && !comesTo(house, but, sound)) {
                        return d;
                    }
                }
            }
            return NONE;
        }

        // Heard before the DOOR is shut; the maker is NONE for the wind.
        int shutWith(House house, int maker, int door, int sound) {
            int set = hearersOf(house, door, sound, maker);
            for (int p = 0; p < house.people; p++) {
                if (contains(set, p)) {
                    house.catchSound(p, sound);
                }
            }
            house.made++;
            if (sound != AJAR) {
                house.shutDoor(door);
            }
            return set;
        }
    }

    private static final class Meaning {
        private final int[] row = new int[MOST_ROW];
        private int many;
        // How many READINGS there are of the row from a place on, or up to a place.
        private final int[] after = new int[MOST_ROW + 1];
        private final int[] before = new int[MOST_ROW + 1];

        void beginRow() {
            many = 0;
        }

        void addSound(int sound) {
            if (many < row.length) {
                row[many] = sound;
                many++;
            }
        }

        void addWord(House house, int word) {
            for (int k = 0; k < house.wordLength[word]; k++) {
                addSound(house.soundOfWord(word, k));
            }
        }

        void loadHeard(House house, int person) {
            beginRow();
            for (int k = 0; k < house.heardMany[person]; k++) {
                addSound(house.heardRow[person * MOST_HEARD + k]);
            }
        }

        int soundAt(int k) {
            return k >= 0 && k < many ? row[k] : NONE;
        }

        int countReadings(House house, int known) {
            after[many] = 1;
            for (int at = many - 1; at >= 0; at--) {
                after[at] = 0;
                for (int w = 0; w < house.words; w++) {
                    if (contains(known, w) && fits(house, w, at)) {
                        after[at] += after[at + house.wordLength[w]];
                    }
                }
            }
            return after[0];
        }

        // Whether the WORD stands in the row from that place on.
        private boolean fits(House house, int word, int at) {
            int length = house.wordLength[word];
            return at >= 0 && at + length <= many && agrees(house, word, at, length);
        }

        private boolean agrees(House house, int word, int at, int length) {
            for (int k = 0; k < length; k++) {
                if (row[at + k] != house.soundOfWord(word, k)) {
                    return false;
                }
            }
            return true;
        }

        int wordsOfFirst(House house, int known) {
            if (countReadings(house, known) == 0) {
                return NONE;
            }
            int words = 0;
            int at = 0;
            for (int i = 0; i < MOST_ROW && at < many; i++) {
                at += house.wordLength[firstWordAt(house, known, at)];
                words++;
            }
            return words;
        }

        int wordOfFirst(House house, int known, int k) {
            if (k >= wordsOfFirst(house, known)) {
                return NONE;
            }
            int at = 0;
            for (int i = 0; i < k; i++) {
                at += house.wordLength[firstWordAt(house, known, at)];
            }
            return firstWordAt(house, known, at);
        }

        // For a place from which on there is a READING.
        private int firstWordAt(House house, int known, int at) {
            for (int w = 0; w < house.words; w++) {
                if (contains(known, w) && fits(house, w, at)
                        && after[at + house.wordLength[w]] > 0) {
                    return w;
                }
            }
            return 0;
        }

        int wordsShared(House house, int known, int knownByOther) {
            int set = 0;
            for (int w = 0; w < house.words; w++) {
                if (contains(known, w)) {
                    beginRow();
                    addWord(house, w);
                    if (countReadings(house, knownByOther) > 0) {
                        set |= 1 << w;
                    }
                }
            }
            return set;
        }

        // How many SOUNDS, and they stand in the row then.
        int findDoubt(House house, int known) {
            before[0] = 1;
            for (int length = 1; length <= MOST_DOUBT; length++) {
                if (extendToDoubt(house, known, 0, length)) {
                    return length;
                }
            }
            return NONE;
        }

        private boolean extendToDoubt(House house, int known, int at, int length) {
            if (at >= length) {
                return before[at] > 1;
            }
            for (int sound = 0; sound < SOUNDS; sound++) {
                row[at] = sound;
                many = at + 1;
                before[many] = countEndings(house, known);
                if (canBeTwo(house, known) && extendToDoubt(house, known, at + 1, length)) {
                    return true;
                }
            }
            return false;
        }

        private int countEndings(House house, int known) {
            int count = 0;
            for (int w = 0; w < house.words; w++) {
                int from = many - house.wordLength[w];
                if (contains(known, w) && fits(house, w, from)) {
                    count += before[from];
                }
            }
            return count;
        }

        // Two READINGS of the shortest row begin with unlike WORDS, as without a first WORD that
        // is the same a shorter row would do: so two must be begun at each of its places.
        private boolean canBeTwo(House house, int known) {
            int begun = before[many];
            for (int from = Math.max(0, many - MOST_SAID + 1); from < many; from++) {
                begun += before[from] * countBegun(house, known, from);
            }
            return begun > 1;
        }

        // WORDS that say what stands from a place on, and then more.
        private int countBegun(House house, int known, int from) {
            int count = 0;
            int length = many - from;
            for (int w = 0; w < house.words; w++) {
                if (contains(known, w) && house.wordLength[w] > length
                        && agrees(house, w, from, length)) {
                    count++;
                }
            }
            return count;
        }
    }

    // Ways by OPEN DOORS, and the game about them.
    private static final class Ways {
        // What a set of OPEN DOORS is worth, so many turns before the end.
        private final int[] worth = new int[1 << MOST_DOORS];

        private static int stepOnce(House house, int openSet, int set) {
            int wider = set;
            for (int d = 0; d < house.doors; d++) {
                int both = house.roomsOfDoor(d);
                if (contains(openSet, d) && (set & both) != 0) {
                    wider |= both;
                }
            }
            return wider;
        }

        static int reach(House house, int openSet, int from) {
            int set = from;
            for (int i = 0; i < MOST_ROOMS; i++) {
                int wider = stepOnce(house, openSet, set);
                if (wider == set) {
                    break;
                }
                set = wider;
            }
            return set;
        }

        static int distance(House house, int room, int other) {
            int set = 1 << room;
            for (int steps = 0; steps < MOST_ROOMS; steps++) {
                if (contains(set, other)) {
                    return steps;
                }
                set = stepOnce(house, house.openSet, set);
            }
            return NONE;
        }

        static int roomOnWay(House house, int room, int other, int k) {
            int length = distance(house, room, other);
            if (length == NONE || k > length) {
                return NONE;
            }
            int at = room;
            for (int i = 0; i < k; i++) {
                at = nextOnWay(house, at, other, length - i - 1);
            }
            return at;
        }

        private static int nextOnWay(House house, int room, int other, int left) {
            int near = stepOnce(house, house.openSet, 1 << room);
            for (int r = 0; r < house.rooms; r++) {
                if (contains(near, r) && distance(house, r, other) == left) {
                    return r;
                }
            }
            return room;
        }

        // Sets are gone through from the least on, so that of several the least stays.
        static int doorsThatPart(House house, int room, int other) {
            if (room == other) {
                return NONE;
            }
            int best = house.openSet;
            for (int set = 0; set < house.openSet; set++) {
                boolean fewer = Integer.bitCount(set) < Integer.bitCount(best);
                if (fewer && (set & ~house.openSet) == 0
                        && !contains(reach(house, house.openSet ^ set, 1 << room), other)) {
                    best = set;
                }
            }
            return best;
        }

        static int doorsToJoin(House house, int room, int other) {
            int all = (1 << house.doors) - 1;
            int set = reach(house, house.openSet, 1 << room);
            for (int many = 0; many <= house.doors; many++) {
                if (contains(set, other)) {
                    return many;
                }
                set = reach(house, house.openSet, stepOnce(house, all, set));
            }
            return NONE;
        }

        // Through a DOOR before it is shut one comes to both its ROOMS.
        static boolean canShutAll(House house, int room, Tray tray, int n) {
            int open = house.openSet;
            int set = 1 << room;
            for (int i = 0; i < n; i++) {
                int told = tray.smallNumber(i);
                int both = house.roomsOfDoor(told);
                if ((reach(house, open, set) & both) == 0) {
                    return false;
                }
                set = both;
                open &= ~(1 << told);
            }
            return true;
        }

        int outcome(House house, int room, int turns) {
            playBack(house, room, turns, 0);
            return worth[house.openSet];
        }

        int bestMove(House house, int room, int turns) {
            playBack(house, room, turns, 1);
            int best = worth[house.openSet];
            int move = NONE;
            for (int d = 0; d < house.doors; d++) {
                if (house.isOpen(d)) {
                    int then = worth[house.openSet ^ 1 << d];
                    if (then < best || then == best && move == NONE) {
                        best = then;
                        move = d;
                    }
                }
            }
            return move;
        }

        // From the end back to the turn of that number, the first one being 0.
        private void playBack(House house, int room, int turns, int toTurn) {
            int sets = 1 << house.doors;
            for (int set = 0; set < sets; set++) {
                worth[set] = Integer.bitCount(reach(house, set, 1 << room));
            }
            for (int turn = turns - 1; turn >= toTurn; turn--) {
                if (turn % 2 == 0) {
                    shutterPlays(house, sets);
                } else {
                    openerPlays(house, sets);
                }
            }
        }

        // From the greatest set down: what smaller sets are worth is still that of later.
        private void shutterPlays(House house, int sets) {
            for (int set = sets - 1; set >= 0; set--) {
                for (int d = 0; d < house.doors; d++) {
                    if (contains(set, d)) {
                        worth[set] = Math.min(worth[set], worth[set ^ 1 << d]);
                    }
                }
            }
        }

        private void openerPlays(House house, int sets) {
            for (int set = 0; set < sets; set++) {
                for (int d = 0; d < house.doors; d++) {
                    if (!contains(set, d)) {
                        worth[set] = Math.max(worth[set], worth[set | 1 << d]);
                    }
                }
            }
        }
    }

    private static final class Runner {
        // Far above what 300 STEPS with their loops' ends can take.
        private static final int MOST_ROUNDS = 1000000;

        private final int[] left = new int[2 * MOST_STEPS];
        private int draws;
        int done;
        int missed;
        int made;
        int caught;
        int passed;
        boolean cut;

        void run(House house, Days days, Hearing hearing, int seed) {
            int madeAhead = house.made;
            draws = seed;
            done = 0;
            missed = 0;
            caught = 0;
            passed = 0;
            cut = false;
            int at = 0;
            for (int i = 0; i < MOST_ROUNDS && at >= 0 && at < days.length; i++) {
                int kind = days.kinds[at];
                cut = kind != END_WORD && done >= MOST_DONE;
                if (cut) {
                    break;
                }
                if (kind == END_WORD) {
                    at = behindEnd(days, at);
                } else {
                    done++;
                    if (!act(house, days, hearing, at)) {
                        missed++;
                    }
                    at = behindStep(house, days, at);
                }
            }
            made = house.made - madeAhead;
        }

        private int behindEnd(Days days, int at) {
            int begin = days.partner[at];
            if (days.kinds[begin] != LOOP_WORD || left[begin] <= 1) {
                return at + 1;
            }
            left[begin]--;
            return begin + 1;
        }

        private int behindStep(House house, Days days, int at) {
            switch (days.kinds[at]) {
                case STOP_WORD:
                    return days.length;
                case WHEN_WORD:
                    return holds(house, days, at) ? at + 1 : days.partner[at] + 1;
                case LOOP_WORD:
                    left[at] = days.what[at];
                    return at + 1;
                default:
                    return at + 1;
            }
        }

        private static boolean holds(House house, Days days, int at) {
            switch (days.tests[at]) {
                case IN_WORD:
                    return house.roomOf[days.who[at]] == days.what[at];
                case OPEN_WORD:
                    return house.isOpen(days.what[at]);
                default:
                    int many = house.heardMany[days.who[at]];
                    return Integer.compare(many, days.what[at]) == days.how[at];
            }
        }

        // Whether it can be: what can't is MISSED.
        private boolean act(House house, Days days, Hearing hearing, int at) {
            int who = days.who[at];
            int what = days.what[at];
            switch (days.kinds[at]) {
                case CLOSE_WORD:
                    return house.isAt(who, what)
                        && shutBy(house, hearing, who, what, days.how[at]);
                case OPEN_WORD:
                    return house.isAt(who, what) && unshut(house, what);
                case GO_WORD:
                    return house.isAt(who, what) && pass(house, who, what);
                case FORGET_WORD:
                    return forgetAll(house, who);
                case ANY_WORD:
                    int blown = draw(house.doors);
                    return blown != NONE && (shutBy(house, hearing, NONE, blown, SLAM)
                        || unshut(house, blown));
                default:
                    return true;
            }
        }

        private boolean shutBy(House house, Hearing hearing, int maker, int door, int sound) {
            if (!house.isOpen(door)) {
                return false;
            }
            caught += Integer.bitCount(hearing.shutWith(house, maker, door, sound));
            return true;
        }

        private static boolean unshut(House house, int door) {
            if (house.isOpen(door)) {
                return false;
            }
            house.unshut(door);
            return true;
        }

        private boolean pass(House house, int person, int door) {
            if (!house.isOpen(door)) {
                return false;
            }
            house.passThrough(person, door);
            passed++;
            return true;
        }

        private static boolean forgetAll(House house, int person) {
            if (house.heardMany[person] == 0) {
                return false;
            }
            house.heardMany[person] = 0;
            return true;
        }

        // The product stays below 2 to the 31st, as draws is below 65,536.
        private int draw(int many) {
            if (many <= 0) {
                return NONE;
            }
            draws = (draws * 3221 + 11449) % 65536;
            return draws / 8 % many;
        }
    }
}
