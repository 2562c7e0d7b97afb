import java.util.Arrays;

/**
 * A village in which each has once the right to have a day over, from its dawn, for all,
 * though only he remembers. The words in capitals are those of DOC.md.
 */
public final class LivedAgain {
    public static final int NONE = -1000000, BAD = -1000001, STATE = -1000002, FULL = -1000003;

    private static final int FINDING = -1000010, FAULTY = -1000100;
    private static final int NULL = 1, PLACE = 2, KIND = 3, SIZE = 4, STORE = 5;

    private static final int MOST_PEOPLE = 3, SETS = 8, HABITS = 3, MOST_LIVES = 4;
    private static final int MOST_DATES = 100, MOST_SEED = 999999, MOST_ACTS = 24, IMAGES = 2;
    private static final long MULTIPLIER = 16807, MODULUS = 2147483647;

    private final Rows rows = new Rows();
    private final Tape tape = new Tape();
    private final Village now = new Village();
    private final Village guess = new Village();
    private final Village[] images = new Village[IMAGES];
    private final Foretelling foretelling = new Foretelling();
    private final Trace asked = new Trace();
    private final int[] acts = new int[MOST_ACTS * Village.KEPT];
    private int nextAct;
    private int keptActs;
    private int latestFault;
    private int latestFinding;

    public LivedAgain() {
        for (int k = 0; k < IMAGES; k++) {
            images[k] = new Village();
        }
    }

    // ---- rows

    public int row(int row, int lane, int n) {
        if (!Rows.isNumber(row) || lane < 0 || lane >= Rows.LANES || n > Rows.MOST_ITEMS) {
            return BAD;
        }
        if (n < 0) {
            return found(SIZE);
        }
        rows.lay(row, lane, n);
        return answered(n);
    }

    public int set(int row, int i, int v) {
        if (!Rows.isNumber(row)) {
            return BAD;
        }
        if (rows.isMissing(row)) {
            return found(NULL);
        }
        if (!rows.hasPart(row, i, 1)) {
            return found(PLACE);
        }
        return answered(rows.put(row, i, v));
    }

    public int copy(int a, int i, int b, int j, int n) {
        if (!Rows.isNumber(a) || !Rows.isNumber(b)) {
            return BAD;
        }
        if (rows.isMissing(a) || rows.isMissing(b)) {
            return found(NULL);
        }
        if (!rows.areOfOneLane(a, b)) {
            return found(STORE);
        }
        if (!rows.hasPart(a, i, n) || !rows.hasPart(b, j, n)) {
            return found(PLACE);
        }
        rows.carry(a, i, b, j, n);
        return answered(n);
    }

    public int drop(int row) {
        if (!Rows.isNumber(row)) {
            return BAD;
        }
        if (rows.isMissing(row)) {
            return found(NULL);
        }
        return answered(rows.takeAway(row));
    }

    // ---- villages, acts

    public int feed(int letter) {
        if (letter < 0 || letter > 255) {
            return BAD;
        }
        return tape.takeByte(letter) ? tape.length : FULL;
    }

    public int village() {
        int people = tape.readVillage();
        if (tape.flaw != 0) {
            latestFault = tape.flaw;
            return FAULTY - tape.place;
        }
        now.settle(tape.newcomers, people);
        forgetActs();
        return people;
    }

    public int fault() {
        return latestFault;
    }

    public int live(int seed) {
        if (!now.there) {
            return STATE;
        }
        if (!isSeed(seed)) {
            return BAD;
        }
        if (now.evening) {
            return STATE;
        }
        keepAct();
        now.passDay(seed);
        now.lives[now.date]++;
        return now.well;
    }

    public int again(int person) {
        if (now.personAt(person) == null) {
            return BAD;
        }
        if (!now.evening || !now.mayRepeat(person, now.rights)) {
            return STATE;
        }
        keepAct();
        now.repeatDay(person);
        return now.memories[person];
    }

    public int stand() {
        if (!now.there || !now.evening) {
            return STATE;
        }
        if (now.date >= MOST_DATES - 1) {
            return FULL;
        }
        keepAct();
        int livesOfDay = now.lives[now.date];
        now.closeDay();
        now.date++;
        return livesOfDay;
    }

    public int will(int person, int other) {
        if (now.personAt(person) == null || now.personAt(other) == null || person == other) {
            return BAD;
        }
        if (!now.hasRight(person) || now.hasRight(other)) {
            return STATE;
        }
        keepAct();
        now.rights ^= 1 << person | 1 << other;
        return Integer.bitCount(now.rights);
    }

    public int undo() {
        if (keptActs < 1) {
            return STATE;
        }
        keptActs--;
        nextAct = (nextAct + MOST_ACTS - 1) % MOST_ACTS;
        now.takeBack(acts, nextAct * Village.KEPT);
        return keptActs;
    }

    public int person(int person, int what) {
        Person p = now.personAt(person);
        if (p == null) {
            return BAD;
        }
        switch (what) {
            case 0: return p.chance;
            case 1: return p.gain;
            case 2: return p.loss;
            case 3: return now.purses[person];
            case 4: return now.hasRight(person) ? 1 : 0;
            case 5: return now.memories[person];
            case 6: return now.evening ? now.well >> person & 1 : NONE;
            case 7: return p.oddsBy(now.memories[person]);
            default: return BAD;
        }
    }

    public int lives(int date) {
        if (!now.there) {
            return STATE;
        }
        if (date < 0 || date >= MOST_DATES) {
            return BAD;
        }
        return date > now.date ? NONE : now.lives[date];
    }

    // ---- foretold

    public long lived(int row, int k, boolean upper) {
        if (!now.there) {
            return STATE;
        }
        if (!Rows.isNumber(row) || k < 1 || k > MOST_LIVES) {
            return BAD;
        }
        int refusal = takeHabits(row);
        if (refusal != 0) {
            return refusal;
        }
        foretelling.tell(now);
        return part(foretelling.byLives[k], Foretelling.WHOLE, upper);
    }

    public long mean(int row, int person, boolean upper) {
        int refusal = habitsOfPerson(row, person);
        if (refusal != 0) {
            return refusal;
        }
        foretelling.tell(now);
        return part(foretelling.brought[person], Foretelling.WHOLE, upper);
    }

    public int best(int row, int person) {
        int refusal = habitsOfPerson(row, person);
        return refusal != 0 ? refusal : foretelling.bestHabit(now, person);
    }

    public int rests(int k) {
        if (!now.there) {
            return STATE;
        }
        if (k < -1 || k >= now.size) {
            return BAD;
        }
        int many = foretelling.findRests(now);
        if (k == -1) {
            return many;
        }
        return many == 0 ? NONE : Foretelling.habitIn(foretelling.firstRest, k, now.size);
    }

    public long worth(int person, int n, boolean upper) {
        Person p = now.personAt(person);
        if (p == null || n < 1 || n > 3) {
            return BAD;
        }
        return part(p.worthOfRight(n), Person.WORTH_PARTS, upper);
    }

    public long knows(int person, int r, int well, boolean upper) {
        Person p = now.personAt(person);
        if (p == null || r < 0 || r > 10 || well < 0 || well > 1) {
            return BAD;
        }
        long with = r * p.waysToGo(1, well == 1);
        long all = with + (10 - r) * p.waysToGo(0, well == 1);
        return all == 0 ? NONE : part(with, all, upper);
    }

    public int often(int row, int i, int n, int set) {
        if (!now.there) {
            return STATE;
        }
        if (!Rows.isNumber(row) || n < 0 || n > 10 || set < 0 || set >= 1 << now.size) {
            return BAD;
        }
        if (rows.isMissing(row)) {
            return found(NULL);
        }
        if (!rows.hasPart(row, i, n)) {
            return found(PLACE);
        }
        int repeats = 0;
        for (int at = i; at < i + n; at++) {
            int livesOfDate = rows.itemAt(row, at);
            if (livesOfDate < 1 || livesOfDate > MOST_LIVES) {
                return BAD;
            }
            repeats += livesOfDate - 1;
        }
        return answered(orders(now.howManyMayRepeat(now.rights & ~set), repeats));
    }

    public int gone(int row, int n, int seed, int what) {
        if (!now.there) {
            return STATE;
        }
        if (!Rows.isNumber(row) || n < 1 || n > 20 || !isSeed(seed) || what < -2 || what >= now.size) {
            return BAD;
        }
        int refusal = takeHabits(row);
        if (refusal != 0) {
            return refusal;
        }
        guess.takeFrom(now);
        int days = guess.passDates(foretelling.habits, n, seed);
        if (what == -1) {
            return days;
        }
        return what == -2 ? guess.rights : guess.purses[what];
    }

    public int image(int k) {
        Village kept = imageAt(k);
        if (kept == null) {
            return BAD;
        }
        if (!now.there) {
            return STATE;
        }
        kept.takeFrom(now);
        return 1;
    }

    public int restore(int k) {
        Village kept = imageAt(k);
        if (kept == null) {
            return BAD;
        }
        if (!kept.there) {
            return STATE;
        }
        now.takeFrom(kept);
        forgetActs();
        return 1;
    }

    // ---- asked

    public int kind(int person) {
        Person p = now.personAt(person);
        return p == null ? BAD : p.ownKind();
    }

    public int as(int person, int kind) {
        Person p = now.personAt(person);
        if (p == null || kind < 0 || kind > 5) {
            return BAD;
        }
        return isOfKind(p, kind) ? answered(person) : found(KIND);
    }

    public int ask(int person, int what) {
        Person p = now.personAt(person);
        if (p == null || what < 0 || what > 1) {
            return BAD;
        }
        asked.begin(now.purses[person], now.memories[person]);
        return what == 0 ? p.sizeBy(asked) : p.markBy(asked);
    }

    public int trace(int i) {
        return asked.numberAt(i);
    }

    public int count(int what) {
        switch (what) {
            case 0: return rows.howMany();
            case 1: return now.size;
            case 2: return now.date;
            case 3: return now.lives[now.date];
            case 4: return now.rights;
            case 5: return now.evening ? 1 : 0;
            case 6: return keptActs;
            case 7: return tape.length;
            default: return BAD;
        }
    }

    public int status() {
        return latestFinding;
    }

    // ---- what several calls share

    private int found(int finding) {
        latestFinding = finding;
        return FINDING - finding;
    }

    private int answered(int answer) {
        latestFinding = 0;
        return answer;
    }

    private void keepAct() {
        now.keepIn(acts, nextAct * Village.KEPT);
        nextAct = (nextAct + 1) % MOST_ACTS;
        keptActs = Math.min(MOST_ACTS, keptActs + 1);
    }

    private void forgetActs() {
        keptActs = 0;
    }

    private Village imageAt(int k) {
        return k < 0 || k >= IMAGES ? null : images[k];
    }

    private int habitsOfPerson(int row, int person) {
        if (!now.there) {
            return STATE;
        }
        if (!Rows.isNumber(row) || now.personAt(person) == null) {
            return BAD;
        }
        return takeHabits(row);
    }

    /** Answers 0 if the ROW tells HABITS, which no refusal is. */
    private int takeHabits(int row) {
        if (rows.isMissing(row)) {
            return found(NULL);
        }
        if (!rows.hasPart(row, 0, now.size)) {
            return found(PLACE);
        }
        for (int i = 0; i < now.size; i++) {
            int habit = rows.itemAt(row, i);
            if (habit < 0 || habit >= HABITS) {
                return BAD;
            }
            foretelling.habits[i] = habit;
        }
        return answered(0);
    }

    private static boolean isSeed(int seed) {
        return seed >= 1 && seed <= MOST_SEED;
    }

    private static boolean isOfKind(Person p, int kind) {
        switch (kind) {
            case 0: return true;
            case 1: return p instanceof Farmer;
            case 2: return p instanceof Gambler;
            case 3: return p instanceof Saint;
            case 4: return p instanceof Widow;
            default: return p instanceof Stranger;
        }
    }

    /** In how many orders so many of the people can come one behind another. */
    private static int orders(int people, int places) {
        int ways = 1;
        for (int taken = 0; taken < places && ways > 0; taken++) {
            ways *= people - taken;
        }
        return ways;
    }

    private static long part(long upper, long lower, boolean wantsUpper) {
        long common = commonDivisor(Math.abs(upper), lower);
        if (common < 1) {
            return 0;
        }
        return wantsUpper ? upper / common : lower / common;
    }

    /** A hundred steps are more than Euclid needs for any two longs. */
    private static long commonDivisor(long a, long b) {
        for (int step = 0; step < 100 && b != 0; step++) {
            long rest = a % b;
            a = b;
            b = rest;
        }
        return a;
    }

    /** One of the PEOPLE, as the text told it: what changes from day to day stands in the Village. */
    private abstract static class Person {
        /** Three DATES cut a tenth of a mean by ten thrice more; so all that comes is whole. */
        static final long WORTH_PARTS = 10000;

        final int number;
        final int chance;
        final int gain;
        final int loss;

        Person(int number, int chance, int gain, int loss) {
            this.number = number;
            this.chance = chance;
            this.gain = gain;
            this.loss = loss;
        }

        abstract int ownKind();

        int helpOf(int memory) {
            return memory;
        }

        int bringsBy(boolean well) {
            return well ? gain : -loss;
        }

        boolean beginsWithRight() {
            return true;
        }

        boolean mayUseRight() {
            return true;
        }

        int sizeBy(Trace trace) {
            trace.leave(10);
            return trace.purse;
        }

        int markBy(Trace trace) {
            trace.leave(20);
            return number;
        }

        final int oddsBy(int memory) {
            return Math.min(10, chance + helpOf(memory));
        }

        /** By how many of 10 it goes so. */
        final int waysToGo(int memory, boolean well) {
            int odds = oddsBy(memory);
            return well ? odds : 10 - odds;
        }

        final long meanTenths(int memory) {
            return (long) waysToGo(memory, true) * bringsBy(true)
                + (long) waysToGo(memory, false) * bringsBy(false);
        }

        final long worthOfRight(int dates) {
            if (!mayUseRight()) {
                return 0;
            }
            long anew = meanTenths(1) * (WORTH_PARTS / 10);
            long plain = meanTenths(0) * (WORTH_PARTS / 10);
            long worth = 0;
            for (int date = 0; date < dates; date++) {
                long well = Math.max(bringsBy(true) * WORTH_PARTS + worth, anew);
                long ill = Math.max(bringsBy(false) * WORTH_PARTS + worth, anew);
                worth = (waysToGo(0, true) * well + waysToGo(0, false) * ill) / 10 - plain;
            }
            return worth;
        }
    }

    private static class Farmer extends Person {
        Farmer(int number, int chance, int gain, int loss) {
            super(number, chance, gain, loss);
        }

        int ownKind() {
            return 1;
        }

        int sizeBy(Trace trace) {
            trace.leave(11);
            int purse = super.sizeBy(trace);
            return purse + markBy(trace);
        }

        int markBy(Trace trace) {
            trace.leave(21);
            return super.markBy(trace) + trace.memory;
        }
    }

    private static final class Gambler extends Farmer {
        Gambler(int number, int chance, int gain, int loss) {
            super(number, chance, gain, loss);
        }

        int ownKind() {
            return 2;
        }

        int bringsBy(boolean well) {
            return 2 * super.bringsBy(well);
        }

        int sizeBy(Trace trace) {
            trace.leave(12);
            return -super.sizeBy(trace);
        }

        int markBy(Trace trace) {
            trace.leave(24);
            return 2 * super.markBy(trace);
        }
    }

    private static final class Saint extends Farmer {
        Saint(int number, int chance, int gain, int loss) {
            super(number, chance, gain, loss);
        }

        int ownKind() {
            return 3;
        }

        int helpOf(int memory) {
            return 2 * memory;
        }

        int bringsBy(boolean well) {
            return well ? gain : 0;
        }

        int markBy(Trace trace) {
            trace.leave(22);
            return super.markBy(trace) - 1000;
        }
    }

    private static class Widow extends Person {
        Widow(int number, int chance, int gain, int loss) {
            super(number, chance, gain, loss);
        }

        int ownKind() {
            return 4;
        }

        boolean mayUseRight() {
            return false;
        }

        int sizeBy(Trace trace) {
            trace.leave(13);
            return super.sizeBy(trace) - 100;
        }

        int markBy(Trace trace) {
            trace.leave(23);
            int mark = super.markBy(trace);
            return mark - sizeBy(trace);
        }
    }

    private static final class Stranger extends Widow {
        Stranger(int number, int chance, int gain, int loss) {
            super(number, chance, gain, loss);
        }

        int ownKind() {
            return 5;
        }

        boolean beginsWithRight() {
            return false;
        }

        boolean mayUseRight() {
            return true;
        }

        int sizeBy(Trace trace) {
            trace.leave(14);
            return 2 * super.sizeBy(trace);
        }
    }

    /** THE TRACE, with what the BODIES need of the one who is asked. */
    private static final class Trace {
        private static final int MOST_NUMBERS = 16;

        private final int[] numbers = new int[MOST_NUMBERS];
        private int left;
        int purse;
        int memory;

        void begin(int purseOfAsked, int memoryOfAsked) {
            left = 0;
            purse = purseOfAsked;
            memory = memoryOfAsked;
        }

        void leave(int body) {
            if (left < MOST_NUMBERS) {
                numbers[left] = body;
                left++;
            }
        }

        int numberAt(int i) {
            return i < 0 || i >= left ? NONE : numbers[i];
        }
    }

    /** The VILLAGE as it is, or as an IMAGE kept it, or as it would go on. */
    private static final class Village {
        /** How many numbers undo one ACT: PEOPLE, and LIVES of other DATES, stay as they are. */
        static final int KEPT = 5 + 2 * MOST_PEOPLE;

        final Person[] people = new Person[MOST_PEOPLE];
        final int[] memories = new int[MOST_PEOPLE];
        final int[] purses = new int[MOST_PEOPLE];
        final int[] lives = new int[MOST_DATES];
        boolean there;
        int size;
        int date;
        boolean evening;
        int well;
        int rights;

        void settle(Person[] newcomers, int many) {
            there = true;
            size = Math.min(many, MOST_PEOPLE);
            date = 0;
            evening = false;
            well = 0;
            rights = 0;
            Arrays.fill(memories, 0);
            Arrays.fill(purses, 0);
            Arrays.fill(lives, 0);
            for (int i = 0; i < size; i++) {
                Person p = newcomers[i];
                people[i] = p;
                if (p != null && p.beginsWithRight()) {
                    rights |= 1 << i;
                }
            }
        }

        void takeFrom(Village other) {
            there = other.there;
            size = other.size;
            date = other.date;
            evening = other.evening;
            well = other.well;
            rights = other.rights;
            for (int i = 0; i < MOST_PEOPLE; i++) {
                people[i] = other.people[i];
                memories[i] = other.memories[i];
                purses[i] = other.purses[i];
            }
            System.arraycopy(other.lives, 0, lives, 0, MOST_DATES);
        }

        void keepIn(int[] kept, int at) {
            kept[at] = date;
            kept[at + 1] = evening ? 1 : 0;
            kept[at + 2] = well;
            kept[at + 3] = rights;
            kept[at + 4] = lives[date];
            System.arraycopy(memories, 0, kept, at + 5, MOST_PEOPLE);
            System.arraycopy(purses, 0, kept, at + 5 + MOST_PEOPLE, MOST_PEOPLE);
        }

        void takeBack(int[] kept, int at) {
            date = kept[at];
            evening = kept[at + 1] == 1;
            well = kept[at + 2];
            rights = kept[at + 3];
            lives[date] = kept[at + 4];
            System.arraycopy(kept, at + 5, memories, 0, MOST_PEOPLE);
            System.arraycopy(kept, at + 5 + MOST_PEOPLE, purses, 0, MOST_PEOPLE);
        }

        Person personAt(int i) {
            return i < 0 || i >= size ? null : people[i];
        }

        boolean hasRight(int i) {
            return (rights >> i & 1) == 1;
        }

        boolean mayRepeat(int i, int rightsLeft) {
            Person p = personAt(i);
            return p != null && (rightsLeft >> i & 1) == 1 && p.mayUseRight();
        }

        int howManyMayRepeat(int rightsLeft) {
            int many = 0;
            for (int i = 0; i < size; i++) {
                if (mayRepeat(i, rightsLeft)) {
                    many++;
                }
            }
            return many;
        }

        /** -1: none, so the day STANDS. */
        int firstToRepeat(int[] habits, int rightsLeft, int went) {
            for (int i = 0; i < size; i++) {
                boolean wants = habits[i] == 2 || habits[i] == 1 && (went >> i & 1) == 0;
                if (wants && mayRepeat(i, rightsLeft)) {
                    return i;
                }
            }
            return -1;
        }

        /** Answers X, since it may go on from day to day. */
        long passDay(long seed) {
            long x = seed;
            well = 0;
            for (int i = 0; i < size; i++) {
                Person p = people[i];
                x = x * MULTIPLIER % MODULUS;
                if (p != null && x % 10 < p.oddsBy(memories[i])) {
                    well |= 1 << i;
                }
            }
            evening = true;
            return x;
        }

        void repeatDay(int i) {
            rights &= ~(1 << i);
            memories[i]++;
            evening = false;
            well = 0;
        }

        void closeDay() {
            for (int i = 0; i < size; i++) {
                Person p = people[i];
                if (p != null) {
                    purses[i] += p.bringsBy((well >> i & 1) == 1);
                }
            }
            Arrays.fill(memories, 0);
            evening = false;
            well = 0;
        }

        /** Answers how many days were LIVED; the DATE is left alone, for these may go beyond the last. */
        int passDates(int[] habits, int dates, int seed) {
            long x = seed;
            int days = 0;
            for (int d = 0; d < dates; d++) {
                for (int turn = 0; turn <= MOST_PEOPLE; turn++) {
                    if (!evening) {
                        x = passDay(x);
                        days++;
                    }
                    int who = firstToRepeat(habits, rights, well);
                    if (who < 0) {
                        break;
                    }
                    repeatDay(who);
                }
                closeDay();
            }
            return days;
        }
    }

    /** All ways in which a DATE by HABITS can go, each with its odds. */
    private static final class Foretelling {
        /** A DATE has four LIVES at most, in each of which three deeds go by tenths. */
        static final long WHOLE = 1000000000000L;
        private static final int ROWS_OF_HABITS = 27;

        final int[] habits = new int[MOST_PEOPLE];
        final long[] byLives = new long[MOST_LIVES + 1];
        final long[] brought = new long[MOST_PEOPLE];
        int firstRest;
        /** By the set of those who had the day AGAIN: who had it remembers it once. */
        private final long[] reached = new long[SETS];
        private final long[] means = new long[ROWS_OF_HABITS * MOST_PEOPLE];

        void tell(Village v) {
            Arrays.fill(byLives, 0);
            Arrays.fill(brought, 0);
            Arrays.fill(reached, 0);
            reached[0] = WHOLE;
            for (int had = 0; had < SETS; had++) {
                long each = reached[had] / 1000;
                for (int went = 0; went < SETS && each > 0; went++) {
                    endDay(v, had, went, each * waysOfAll(v, had, went));
                }
            }
        }

        /** By how many of 1000 a day goes so; who is not there never does well. */
        private long waysOfAll(Village v, int had, int went) {
            long ways = 1;
            for (int i = 0; i < MOST_PEOPLE; i++) {
                Person p = v.personAt(i);
                boolean well = (went >> i & 1) == 1;
                if (p != null) {
                    ways *= p.waysToGo(had >> i & 1, well);
                } else {
                    ways *= well ? 0 : 10;
                }
            }
            return ways;
        }

        private void endDay(Village v, int had, int went, long weight) {
            int who = v.firstToRepeat(habits, v.rights & ~had, went);
            if (who >= 0) {
                reached[had | 1 << who] += weight;
                return;
            }
            byLives[Integer.bitCount(had) + 1] += weight;
            for (int i = 0; i < v.size; i++) {
                Person p = v.personAt(i);
                if (p != null) {
                    brought[i] += weight * p.bringsBy((went >> i & 1) == 1);
                }
            }
        }

        int bestHabit(Village v, int person) {
            int best = 0;
            long most = 0;
            for (int habit = 0; habit < HABITS; habit++) {
                habits[person] = habit;
                tell(v);
                if (habit == 0 || brought[person] > most) {
                    best = habit;
                    most = brought[person];
                }
            }
            return best;
        }

        int findRests(Village v) {
            int all = stepOf(-1, v.size);
            for (int code = 0; code < all; code++) {
                for (int i = 0; i < v.size; i++) {
                    habits[i] = habitIn(code, i, v.size);
                }
                tell(v);
                System.arraycopy(brought, 0, means, code * MOST_PEOPLE, MOST_PEOPLE);
            }
            int many = 0;
            for (int code = all - 1; code >= 0; code--) {
                if (isRest(code, v.size)) {
                    many++;
                    firstRest = code;
                }
            }
            return many;
        }

        private boolean isRest(int code, int size) {
            for (int i = 0; i < size; i++) {
                int step = stepOf(i, size);
                int without = code - habitIn(code, i, size) * step;
                for (int habit = 0; habit < HABITS; habit++) {
                    int other = without + habit * step;
                    if (means[other * MOST_PEOPLE + i] > means[code * MOST_PEOPLE + i]) {
                        return false;
                    }
                }
            }
            return true;
        }

        /** A row of HABITS as one number: the first PERSON's HABIT weighs most, so they stand in order. */
        static int habitIn(int code, int i, int size) {
            return code / stepOf(i, size) % HABITS;
        }

        private static int stepOf(int i, int size) {
            int step = 1;
            for (int after = i + 1; after < size; after++) {
                step *= HABITS;
            }
            return step;
        }
    }

    private static final class Rows {
        static final int LANES = 3, MOST_ITEMS = 40;
        private static final int MOST_ROWS = 8, MISSING = -1;

        private final int[][] items = new int[MOST_ROWS][MOST_ITEMS];
        private final int[] lanes = new int[MOST_ROWS];
        private final int[] sizes = new int[MOST_ROWS];

        Rows() {
            Arrays.fill(sizes, MISSING);
        }

        static boolean isNumber(int row) {
            return row >= 0 && row < MOST_ROWS;
        }

        boolean isMissing(int row) {
            return sizes[row] == MISSING;
        }

        boolean areOfOneLane(int a, int b) {
            return lanes[a] == lanes[b];
        }

        /** The sum of place and number is not made, since it may be too great for an int. */
        boolean hasPart(int row, int i, int n) {
            return i >= 0 && n >= 0 && n <= sizes[row] && i <= sizes[row] - n;
        }

        int itemAt(int row, int i) {
            return items[row][i];
        }

        void lay(int row, int lane, int n) {
            Arrays.fill(items[row], 0);
            lanes[row] = lane;
            sizes[row] = n;
        }

        int put(int row, int i, int v) {
            int kept = v;
            if (lanes[row] == 0) {
                kept = (byte) v;
            } else if (lanes[row] == 1) {
                kept = (short) v;
            }
            items[row][i] = kept;
            return kept;
        }

        void carry(int a, int i, int b, int j, int n) {
            System.arraycopy(items[a], i, items[b], j, n);
        }

        int takeAway(int row) {
            int had = sizes[row];
            sizes[row] = MISSING;
            return had;
        }

        int howMany() {
            int many = 0;
            for (int row = 0; row < MOST_ROWS; row++) {
                if (!isMissing(row)) {
                    many++;
                }
            }
            return many;
        }
    }

    /** THE TAPE and its reading, TOKEN by TOKEN up to the first flaw. */
    private static final class Tape {
        private static final int MOST_BYTES = 60, END = -1;
        private static final int MISPLACED = 1, TOO_GREAT = 2, NO_ROOM = 3;

        final Person[] newcomers = new Person[MOST_PEOPLE];
        int length;
        int place;
        int flaw;
        private final int[] bytes = new int[MOST_BYTES];

        boolean takeByte(int letter) {
            if (length >= MOST_BYTES) {
                return false;
            }
            bytes[length] = letter;
            length++;
            return true;
        }

        int readVillage() {
            place = 0;
            flaw = 0;
            readSign('v');
            readSign(';');
            int people = 0;
            for (int i = 0; i <= MOST_PEOPLE && flaw == 0 && place < length; i++) {
                Person p = readPerson(i);
                if (p != null && i < MOST_PEOPLE) {
                    newcomers[i] = p;
                    people++;
                }
            }
            length = 0;
            return people;
        }

        private int byteAt(int at) {
            return at < length ? bytes[at] : END;
        }

        private void readSign(int sign) {
            if (flaw != 0) {
                return;
            }
            if (byteAt(place) == sign) {
                place++;
            } else {
                flaw = MISPLACED;
            }
        }

        private int readNumber(int most) {
            if (flaw != 0) {
                return 0;
            }
            int figures = 0;
            int value = 0;
            while (figures <= MOST_BYTES && isFigure(byteAt(place + figures))) {
                value = value * 10 + byteAt(place + figures) - '0';
                figures++;
            }
            if (figures < 1 || figures > 2) {
                flaw = MISPLACED;
            } else if (value > most) {
                flaw = TOO_GREAT;
            } else {
                place += figures;
            }
            return value;
        }

        private Person readPerson(int number) {
            int sort = byteAt(place);
            if (!isSort(sort)) {
                flaw = MISPLACED;
            } else if (number >= MOST_PEOPLE) {
                flaw = NO_ROOM;
            }
            readSign(sort);
            int chance = readNumber(10);
            readSign(',');
            int gain = readNumber(99);
            readSign(',');
            int loss = readNumber(99);
            readSign(';');
            return flaw != 0 ? null : newPerson(sort, number, chance, gain, loss);
        }

        private static boolean isFigure(int letter) {
            return letter >= '0' && letter <= '9';
        }

        private static boolean isSort(int letter) {
            return letter == 'f' || letter == 'g' || letter == 's' || letter == 'w' || letter == 'x';
        }

        private static Person newPerson(int sort, int number, int chance, int gain, int loss) {
            switch (sort) {
                case 'f': return new Farmer(number, chance, gain, loss);
                case 'g': return new Gambler(number, chance, gain, loss);
                case 's': return new Saint(number, chance, gain, loss);
                case 'w': return new Widow(number, chance, gain, loss);
                default: return new Stranger(number, chance, gain, loss);
            }
        }
    }
}
