import java.math.BigInteger;
import java.util.ArrayDeque;
import java.util.ArrayList;
import java.util.Arrays;
import java.util.Deque;
import java.util.List;
import java.util.Random;

/**
 * Random runs of calls on LivedAgain and on a second program, written from the document in
 * another way (states copied whole, fractions by BigInteger, all ways gone through one by one);
 * each answer of the one must be that of the other. The seeds are fixed: it goes the same way always.
 */
public final class ModelTest {
    private static final int NONE = -1000000, BAD = -1000001, STATE = -1000002, FULL = -1000003;
    private static final int NULL = 1, PLACE = 2, KIND = 3, SIZE = 4, STORE = 5;
    /** So many calls an object is used for. */
    private static final int LAST = 512;

    private static int calls = 0;
    private static int wrong = 0;

    public static void main(String[] args) {
        for (int run = 0; run < 900 && wrong < 20; run++) {
            oneRun(new Random(run), run);
        }
        System.out.println(wrong == 0 ? "model: all answers are alike" : "model: " + wrong + " answers differ");
        if (wrong != 0) {
            System.exit(1);
        }
    }

    // ---- the driver

    /** Every other run is full of ACTS, so that more than are kept come, one behind another. */
    private static void oneRun(Random random, int run) {
        LivedAgain program = new LivedAgain();
        Model model = new Model();
        boolean acting = run % 2 == 1;
        calls = 0;
        while (calls < LAST) {
            if (random.nextInt(calls < 30 ? 6 : acting ? 400 : 60) == 0) {
                String text = anyText(random);
                for (int i = 0; i < text.length(); i++) {
                    int letter = text.charAt(i);
                    due(run, "feed(" + letter + ")", program.feed(letter), model.feed(letter));
                }
                due(run, "village() of " + text, program.village(), model.village());
            }
            if (acting && random.nextInt(8) != 0) {
                oneAct(random, run, program, model);
                continue;
            }
            if (random.nextInt(12) == 0) {
                layRow(random, run, program, model);
            }
            oneCall(random, run, program, model);
            due(run, "status()", program.status(), model.status);
        }
    }

    private static void oneAct(Random random, int run, LivedAgain program, Model model) {
        int p = random.nextInt(3);
        int q = random.nextInt(3);
        boolean undoing = random.nextInt(40) == 0;
        for (int i = 0; undoing && i < 30 && !model.acts.isEmpty(); i++) {
            due(run, "undo()", program.undo(), model.undo());
            dueSeen(random, run, program, model);
        }
        switch (random.nextInt(9)) {
            case 0: due(run, "again(" + p + ")", program.again(p), model.again(p)); break;
            case 1: due(run, "will(" + p + ", " + q + ")", program.will(p, q), model.will(p, q)); break;
            case 2: due(run, "undo()", program.undo(), model.undo()); break;
            case 3: case 4: dueSeen(random, run, program, model); break;
            default: {
                if (model.now != null && model.now.evening) {
                    due(run, "stand()", program.stand(), model.stand());
                } else {
                    int seed = 1 + random.nextInt(999999);
                    due(run, "live(" + seed + ")", program.live(seed), model.live(seed));
                }
                break;
            }
        }
    }

    private static void dueSeen(Random random, int run, LivedAgain program, Model model) {
        int what = 2 + random.nextInt(5);
        int p = random.nextInt(3);
        int of = 3 + random.nextInt(5);
        int date = random.nextInt(100);
        due(run, "count(" + what + ")", program.count(what), model.count(what));
        if (random.nextBoolean()) {
            due(run, "person(" + p + ", " + of + ")", program.person(p, of), model.person(p, of));
        } else {
            due(run, "lives(" + date + ")", program.lives(date), model.lives(date));
        }
    }

    private static void layRow(Random random, int run, LivedAgain program, Model model) {
        int row = random.nextInt(4);
        int lane = random.nextInt(3);
        int n = random.nextInt(6);
        due(run, "row", program.row(row, lane, n), model.row(row, lane, n));
        for (int i = 0; i < n; i++) {
            int v = random.nextInt(random.nextInt(4) == 0 ? 5 : 3);
            due(run, "set", program.set(row, i, v), model.set(row, i, v));
        }
    }

    private static String anyText(Random random) {
        StringBuilder text = new StringBuilder("v;");
        int people = random.nextInt(12) == 0 ? 4 : random.nextInt(4);
        for (int i = 0; i < people; i++) {
            text.append("fgswx".charAt(random.nextInt(5))).append(random.nextInt(11)).append(',');
            text.append(random.nextInt(100)).append(',').append(random.nextInt(100)).append(';');
        }
        if (random.nextInt(5) == 0) {
            int at = random.nextInt(text.length() + 1);
            char letter = "vfgswxyz0123456789,;; A\u00ff".charAt(random.nextInt(23));
            if (random.nextBoolean() && at < text.length()) {
                text.setCharAt(at, letter);
            } else if (random.nextBoolean() && at < text.length()) {
                text.deleteCharAt(at);
            } else {
                text.insert(at, letter);
            }
        }
        return text.toString();
    }

    /** Mostly a number of use, at times one just beyond, at times a wild one. */
    private static int number(Random random, int from, int to) {
        int way = random.nextInt(40);
        if (way == 0) {
            return from - 1;
        }
        if (way == 1) {
            return to + 1;
        }
        if (way == 2) {
            return new int[] {Integer.MIN_VALUE, Integer.MAX_VALUE, random.nextInt(), -7, 31, 32, 33}[random.nextInt(7)];
        }
        return from + random.nextInt(to - from + 1);
    }

    private static int person(Random random, Model model) {
        return number(random, 0, Math.max(0, model.now == null ? 0 : model.now.people.size() - 1));
    }

    private static void oneCall(Random random, int run, LivedAgain program, Model model) {
        int a = number(random, 0, random.nextBoolean() ? 7 : 3);
        int b = number(random, 0, random.nextBoolean() ? 7 : 3);
        int p = person(random, model);
        int seed = number(random, 1, 999999);
        boolean upper = random.nextBoolean();
        switch (random.nextInt(34)) {
            case 0: {
                int lane = number(random, 0, 2);
                int n = number(random, 0, random.nextBoolean() ? 40 : 4);
                due(run, "row(" + a + ", " + lane + ", " + n + ")", program.row(a, lane, n), model.row(a, lane, n));
                break;
            }
            case 1: case 2: {
                int i = number(random, 0, 5);
                int v = random.nextBoolean() ? random.nextInt() : number(random, 0, 4);
                due(run, "set(" + a + ", " + i + ", " + v + ")", program.set(a, i, v), model.set(a, i, v));
                break;
            }
            case 3: {
                int i = number(random, 0, 5);
                int j = number(random, 0, 5);
                int n = number(random, 0, 4);
                due(run, "copy(" + a + ", " + i + ", " + b + ", " + j + ", " + n + ")",
                    program.copy(a, i, b, j, n), model.copy(a, i, b, j, n));
                break;
            }
            case 4:
                if (random.nextInt(4) == 0) {
                    due(run, "drop(" + a + ")", program.drop(a), model.drop(a));
                }
                break;
            case 5: {
                int letter = number(random, 0, 255);
                if (random.nextInt(10) == 0) {
                    due(run, "feed(" + letter + ")", program.feed(letter), model.feed(letter));
                }
                break;
            }
            case 6: due(run, "fault()", program.fault(), model.fault); break;
            case 7: case 8: case 9: due(run, "live(" + seed + ")", program.live(seed), model.live(seed)); break;
            case 10: case 11: due(run, "again(" + p + ")", program.again(p), model.again(p)); break;
            case 12: case 13: due(run, "stand()", program.stand(), model.stand()); break;
            case 14: case 15: {
                int q = person(random, model);
                due(run, "will(" + p + ", " + q + ")", program.will(p, q), model.will(p, q));
                break;
            }
            case 16: due(run, "undo()", program.undo(), model.undo()); break;
            case 17: case 18: {
                int what = number(random, 0, 7);
                due(run, "person(" + p + ", " + what + ")", program.person(p, what), model.person(p, what));
                break;
            }
            case 19: {
                int date = number(random, 0, random.nextBoolean() ? 99 : 5);
                due(run, "lives(" + date + ")", program.lives(date), model.lives(date));
                break;
            }
            case 20: {
                int k = number(random, 1, 4);
                due(run, "lived(" + a + ", " + k + ", " + upper + ")", program.lived(a, k, upper), model.lived(a, k, upper));
                break;
            }
            case 21: case 22:
                due(run, "mean(" + a + ", " + p + ", " + upper + ")", program.mean(a, p, upper), model.mean(a, p, upper));
                break;
            case 23: due(run, "best(" + a + ", " + p + ")", program.best(a, p), model.best(a, p)); break;
            case 24: {
                int k = random.nextInt(3) == 0 ? -1 : p;
                if (random.nextInt(6) == 0) {
                    due(run, "rests(" + k + ")", program.rests(k), model.rests(k));
                }
                break;
            }
            case 25: {
                int n = number(random, 1, 3);
                due(run, "worth(" + p + ", " + n + ", " + upper + ")", program.worth(p, n, upper), model.worth(p, n, upper));
                break;
            }
            case 26: {
                int r = number(random, 0, 10);
                int well = number(random, 0, 1);
                due(run, "knows(" + p + ", " + r + ", " + well + ", " + upper + ")",
                    program.knows(p, r, well, upper), model.knows(p, r, well, upper));
                break;
            }
            case 27: case 28: {
                int i = number(random, 0, 4);
                int n = number(random, 0, random.nextInt(3) == 0 ? 10 : 3);
                int set = number(random, 0, 7);
                due(run, "often(" + a + ", " + i + ", " + n + ", " + set + ")",
                    program.often(a, i, n, set), model.often(a, i, n, set));
                break;
            }
            case 29: case 30: {
                int n = number(random, 1, 20);
                int what = number(random, -2, 2);
                due(run, "gone(" + a + ", " + n + ", " + seed + ", " + what + ")",
                    program.gone(a, n, seed, what), model.gone(a, n, seed, what));
                break;
            }
            case 31: {
                int k = number(random, 0, 1);
                if (random.nextInt(3) == 0) {
                    due(run, "restore(" + k + ")", program.restore(k), model.restore(k));
                } else {
                    due(run, "image(" + k + ")", program.image(k), model.image(k));
                }
                break;
            }
            case 32: {
                int kind = number(random, 0, 5);
                due(run, "kind(" + p + ")", program.kind(p), model.kind(p));
                due(run, "as(" + p + ", " + kind + ")", program.as(p, kind), model.as(p, kind));
                break;
            }
            default: {
                int what = number(random, 0, 1);
                int i = number(random, 0, 6);
                int whatCount = number(random, 0, 7);
                due(run, "ask(" + p + ", " + what + ")", program.ask(p, what), model.ask(p, what));
                due(run, "trace(" + i + ")", program.trace(i), model.trace(i));
                due(run, "count(" + whatCount + ")", program.count(whatCount), model.count(whatCount));
                break;
            }
        }
    }

    /** Behind the last call answers are free. */
    private static void due(int run, String call, long got, long want) {
        calls++;
        if (got != want && calls <= LAST) {
            wrong++;
            System.out.println("run " + run + ": " + call + " answered " + got + ", the model " + want);
        }
    }

    // ---- the second program

    private record Fraction(BigInteger upper, BigInteger lower) {
        static Fraction of(long upper, long lower) {
            return made(BigInteger.valueOf(upper), BigInteger.valueOf(lower));
        }

        static Fraction made(BigInteger upper, BigInteger lower) {
            BigInteger common = upper.gcd(lower);
            return new Fraction(upper.divide(common), lower.divide(common));
        }

        Fraction plus(Fraction o) {
            return made(upper.multiply(o.lower).add(o.upper.multiply(lower)), lower.multiply(o.lower));
        }

        Fraction times(Fraction o) {
            return made(upper.multiply(o.upper), lower.multiply(o.lower));
        }

        Fraction minus(Fraction o) {
            return plus(o.times(of(-1, 1)));
        }

        boolean isMoreThan(Fraction o) {
            return upper.multiply(o.lower).compareTo(o.upper.multiply(lower)) > 0;
        }

        long told(boolean wantsUpper) {
            return (wantsUpper ? upper : lower).longValueExact();
        }
    }

    private static final class One {
        final char sort;
        final int chance, gain, loss;
        int purse, memory;
        boolean right, well;

        One(char sort, int chance, int gain, int loss) {
            this.sort = sort;
            this.chance = chance;
            this.gain = gain;
            this.loss = loss;
            right = sort != 'x';
        }

        One copy() {
            One o = new One(sort, chance, gain, loss);
            o.purse = purse;
            o.memory = memory;
            o.right = right;
            o.well = well;
            return o;
        }

        int odds(int remembered) {
            return Math.min(10, chance + remembered * (sort == 's' ? 2 : 1));
        }

        int brings(boolean well) {
            if (sort == 'g') {
                return well ? 2 * gain : -2 * loss;
            }
            if (sort == 's') {
                return well ? gain : 0;
            }
            return well ? gain : -loss;
        }
    }

    private static final class Place {
        final List<One> people = new ArrayList<>();
        final List<Integer> lives = new ArrayList<>(List.of(0));
        boolean evening;

        Place copy() {
            Place p = new Place();
            for (One o : people) {
                p.people.add(o.copy());
            }
            p.lives.clear();
            p.lives.addAll(lives);
            p.evening = evening;
            return p;
        }

        int rights() {
            int set = 0;
            for (int i = 0; i < people.size(); i++) {
                if (people.get(i).right) {
                    set |= 1 << i;
                }
            }
            return set;
        }

        int date() {
            return lives.size() - 1;
        }
    }

    private static final class Model {
        final int[][] rows = new int[8][];
        final int[] lanes = new int[8];
        String tape = "";
        Place now;
        final Place[] images = new Place[2];
        final Deque<Place> acts = new ArrayDeque<>();
        final List<Integer> trace = new ArrayList<>();
        int fault, status;

        int found(int finding) {
            status = finding;
            return -1000010 - finding;
        }

        int fine(int answer) {
            status = 0;
            return answer;
        }

        static boolean in(int v, int from, int to) {
            return v >= from && v <= to;
        }

        int row(int row, int lane, int n) {
            if (!in(row, 0, 7) || !in(lane, 0, 2) || n > 40) {
                return BAD;
            }
            if (n < 0) {
                return found(SIZE);
            }
            rows[row] = new int[n];
            lanes[row] = lane;
            return fine(n);
        }

        int set(int row, int i, int v) {
            if (!in(row, 0, 7)) {
                return BAD;
            }
            if (rows[row] == null) {
                return found(NULL);
            }
            if (!in(i, 0, rows[row].length - 1)) {
                return found(PLACE);
            }
            int bits = new int[] {8, 16, 32}[lanes[row]];
            rows[row][i] = v << 32 - bits >> 32 - bits;
            return fine(rows[row][i]);
        }

        int copy(int a, int i, int b, int j, int n) {
            if (!in(a, 0, 7) || !in(b, 0, 7)) {
                return BAD;
            }
            if (rows[a] == null || rows[b] == null) {
                return found(NULL);
            }
            if (lanes[a] != lanes[b]) {
                return found(STORE);
            }
            if (i < 0 || j < 0 || n < 0 || (long) i + n > rows[a].length || (long) j + n > rows[b].length) {
                return found(PLACE);
            }
            int[] ahead = rows[a].clone();
            for (int k = 0; k < n; k++) {
                rows[b][j + k] = ahead[i + k];
            }
            return fine(n);
        }

        int drop(int row) {
            if (!in(row, 0, 7)) {
                return BAD;
            }
            if (rows[row] == null) {
                return found(NULL);
            }
            int n = rows[row].length;
            rows[row] = null;
            return fine(n);
        }

        int feed(int letter) {
            if (!in(letter, 0, 255)) {
                return BAD;
            }
            if (tape.length() == 60) {
                return FULL;
            }
            tape += (char) letter;
            return tape.length();
        }

        /** By a list of TOKENS made ahead: its first byte, and its text. */
        int village() {
            List<Integer> starts = new ArrayList<>();
            List<String> tokens = new ArrayList<>();
            for (int at = 0; at < tape.length();) {
                int end = at + 1;
                if (Character.isDigit(tape.charAt(at))) {
                    while (end < tape.length() && Character.isDigit(tape.charAt(end))) {
                        end++;
                    }
                }
                starts.add(at);
                tokens.add(tape.substring(at, end));
                at = end;
            }
            starts.add(tape.length());
            tokens.add("");
            tape = "";
            String shape = "v;";
            Place made = new Place();
            int[] told = new int[3];
            char sort = 0;
            for (int t = 0; t < 2; t++) {
                if (!tokens.get(t < tokens.size() ? t : tokens.size() - 1).equals(shape.substring(t, t + 1))) {
                    return faulty(1, starts.get(Math.min(t, starts.size() - 1)));
                }
            }
            for (int t = 2; t < tokens.size(); t++) {
                String token = tokens.get(t);
                int step = (t - 2) % 7;
                if (step == 0 && token.isEmpty()) {
                    break;
                }
                int number = token.matches("[0-9]{1,2}") ? Integer.parseInt(token) : -1;
                boolean fits = switch (step) {
                    case 0 -> token.matches("[fgswx]");
                    case 2, 4 -> token.equals(",");
                    case 6 -> token.equals(";");
                    default -> number >= 0;
                };
                if (!fits) {
                    return faulty(1, starts.get(t));
                }
                if (step == 0) {
                    if (made.people.size() == 3) {
                        return faulty(3, starts.get(t));
                    }
                    sort = token.charAt(0);
                } else if (step % 2 == 1) {
                    if (step == 1 && number > 10) {
                        return faulty(2, starts.get(t));
                    }
                    told[step / 2] = number;
                } else if (step == 6) {
                    made.people.add(new One(sort, told[0], told[1], told[2]));
                }
            }
            now = made;
            acts.clear();
            return made.people.size();
        }

        int faulty(int number, int place) {
            fault = number;
            return -1000100 - place;
        }

        One one(int i) {
            return now == null || i < 0 || i >= now.people.size() ? null : now.people.get(i);
        }

        void keep() {
            acts.push(now.copy());
            if (acts.size() > 24) {
                acts.removeLast();
            }
        }

        static long draw(Place place, long x) {
            for (One o : place.people) {
                x = BigInteger.valueOf(x).multiply(BigInteger.valueOf(16807))
                    .mod(BigInteger.valueOf(2147483647)).longValue();
                o.well = x % 10 < o.odds(o.memory);
            }
            place.evening = true;
            return x;
        }

        static void repeat(Place place, int i) {
            place.people.get(i).right = false;
            place.people.get(i).memory++;
            place.evening = false;
        }

        static void close(Place place) {
            for (One o : place.people) {
                o.purse += o.brings(o.well);
                o.memory = 0;
            }
            place.evening = false;
        }

        int live(int seed) {
            if (now == null) {
                return STATE;
            }
            if (!in(seed, 1, 999999)) {
                return BAD;
            }
            if (now.evening) {
                return STATE;
            }
            keep();
            draw(now, seed);
            now.lives.set(now.date(), now.lives.get(now.date()) + 1);
            int set = 0;
            for (int i = 0; i < now.people.size(); i++) {
                set += now.people.get(i).well ? 1 << i : 0;
            }
            return set;
        }

        int again(int i) {
            One o = one(i);
            if (o == null) {
                return BAD;
            }
            if (!now.evening || !o.right || o.sort == 'w') {
                return STATE;
            }
            keep();
            repeat(now, i);
            return now.people.get(i).memory;
        }

        int stand() {
            if (now == null || !now.evening) {
                return STATE;
            }
            if (now.date() == 99) {
                return FULL;
            }
            keep();
            close(now);
            now.lives.add(0);
            return now.lives.get(now.date() - 1);
        }

        int will(int i, int j) {
            One a = one(i);
            One b = one(j);
            if (a == null || b == null || i == j) {
                return BAD;
            }
            if (!a.right || b.right) {
                return STATE;
            }
            keep();
            a.right = false;
            b.right = true;
            int many = 0;
            for (One o : now.people) {
                many += o.right ? 1 : 0;
            }
            return many;
        }

        int undo() {
            if (acts.isEmpty()) {
                return STATE;
            }
            now = acts.pop();
            return acts.size();
        }

        int person(int i, int what) {
            One o = one(i);
            if (o == null || !in(what, 0, 7)) {
                return BAD;
            }
            int well = now.evening ? (o.well ? 1 : 0) : NONE;
            return new int[] {o.chance, o.gain, o.loss, o.purse, o.right ? 1 : 0, o.memory, well, o.odds(o.memory)}[what];
        }

        int lives(int date) {
            if (now == null) {
                return STATE;
            }
            if (!in(date, 0, 99)) {
                return BAD;
            }
            return date > now.date() ? NONE : now.lives.get(date);
        }

        int habitsRefused(int row, boolean otherwiseFine) {
            if (now == null) {
                return STATE;
            }
            if (!in(row, 0, 7) || !otherwiseFine) {
                return BAD;
            }
            if (rows[row] == null) {
                return found(NULL);
            }
            if (rows[row].length < now.people.size()) {
                return found(PLACE);
            }
            for (int i = 0; i < now.people.size(); i++) {
                if (!in(rows[row][i], 0, 2)) {
                    return BAD;
                }
            }
            return fine(0);
        }

        static int firstAgain(Place place, int[] habits) {
            for (int i = 0; i < place.people.size(); i++) {
                One o = place.people.get(i);
                if (o.right && o.sort != 'w' && (habits[i] == 2 || habits[i] == 1 && !o.well)) {
                    return i;
                }
            }
            return -1;
        }

        /** Goes through all ways of a day, one by one; sums[0 .. 2] the means, sums[2 + k] the odds of k LIVES. */
        static void allWays(Place place, int[] habits, int lived, Fraction odds, Fraction[] sums) {
            int n = place.people.size();
            for (int went = 0; went < 1 << n; went++) {
                Place then = place.copy();
                Fraction way = odds;
                for (int i = 0; i < n; i++) {
                    One o = then.people.get(i);
                    o.well = (went & 1 << i) != 0;
                    int ofTen = o.odds(o.memory);
                    way = way.times(Fraction.of(o.well ? ofTen : 10 - ofTen, 10));
                }
                if (way.upper().signum() == 0) {
                    continue;
                }
                int who = firstAgain(then, habits);
                if (who >= 0) {
                    repeat(then, who);
                    allWays(then, habits, lived + 1, way, sums);
                    continue;
                }
                sums[2 + lived] = sums[2 + lived].plus(way);
                for (int i = 0; i < n; i++) {
                    One o = then.people.get(i);
                    sums[i] = sums[i].plus(way.times(Fraction.of(o.brings(o.well), 1)));
                }
            }
        }

        Fraction[] foretold(int[] habits) {
            Fraction[] sums = new Fraction[7];
            Arrays.fill(sums, Fraction.of(0, 1));
            Place dawn = now.copy();
            for (One o : dawn.people) {
                o.memory = 0;
            }
            allWays(dawn, habits, 1, Fraction.of(1, 1), sums);
            return sums;
        }

        long lived(int row, int k, boolean upper) {
            int refusal = habitsRefused(row, in(k, 1, 4));
            return refusal != 0 ? refusal : foretold(rows[row])[2 + k].told(upper);
        }

        long mean(int row, int i, boolean upper) {
            int refusal = habitsRefused(row, one(i) != null);
            return refusal != 0 ? refusal : foretold(rows[row])[i].told(upper);
        }

        int bestOf(int[] habits, int i) {
            int[] tried = habits.clone();
            int best = 0;
            Fraction most = null;
            for (int h = 0; h < 3; h++) {
                tried[i] = h;
                Fraction mean = foretold(tried)[i];
                if (most == null || mean.isMoreThan(most)) {
                    most = mean;
                    best = h;
                }
            }
            return best;
        }

        int best(int row, int i) {
            int refusal = habitsRefused(row, one(i) != null);
            return refusal != 0 ? refusal : bestOf(rows[row], i);
        }

        int rests(int k) {
            if (now == null) {
                return STATE;
            }
            int n = now.people.size();
            if (!in(k, -1, n - 1)) {
                return BAD;
            }
            List<int[]> all = new ArrayList<>();
            fill(all, new int[n], 0);
            int many = 0;
            int[] first = null;
            for (int[] habits : all) {
                Fraction[] as = foretold(habits);
                boolean rest = true;
                for (int i = 0; i < n && rest; i++) {
                    int[] other = habits.clone();
                    other[i] = bestOf(habits, i);
                    rest = !foretold(other)[i].isMoreThan(as[i]);
                }
                if (rest) {
                    many++;
                    first = first == null ? habits : first;
                }
            }
            if (k == -1) {
                return many;
            }
            return first == null ? NONE : first[k];
        }

        static void fill(List<int[]> all, int[] habits, int from) {
            if (from == habits.length) {
                all.add(habits.clone());
                return;
            }
            for (int h = 0; h < 3; h++) {
                habits[from] = h;
                fill(all, habits, from + 1);
            }
        }

        /** What all its deeds bring in the mean, gone through as a tree. */
        static Fraction value(One o, int dates, boolean right, int memory) {
            if (dates == 0) {
                return Fraction.of(0, 1);
            }
            Fraction sum = Fraction.of(0, 1);
            for (int well = 0; well < 2; well++) {
                int ofTen = well == 1 ? o.odds(memory) : 10 - o.odds(memory);
                Fraction stands = Fraction.of(o.brings(well == 1), 1).plus(value(o, dates - 1, right, 0));
                Fraction then = stands;
                if (right && o.sort != 'w') {
                    Fraction anew = value(o, dates, false, memory + 1);
                    then = anew.isMoreThan(stands) ? anew : stands;
                }
                sum = sum.plus(then.times(Fraction.of(ofTen, 10)));
            }
            return sum;
        }

        long worth(int i, int n, boolean upper) {
            One o = one(i);
            if (o == null || !in(n, 1, 3)) {
                return BAD;
            }
            return value(o, n, true, 0).minus(value(o, n, false, 0)).told(upper);
        }

        long knows(int i, int r, int well, boolean upper) {
            One o = one(i);
            if (o == null || !in(r, 0, 10) || !in(well, 0, 1)) {
                return BAD;
            }
            Fraction with = Fraction.of(r, 10).times(Fraction.of(well == 1 ? o.odds(1) : 10 - o.odds(1), 10));
            Fraction without = Fraction.of(10 - r, 10).times(Fraction.of(well == 1 ? o.odds(0) : 10 - o.odds(0), 10));
            Fraction all = with.plus(without);
            return all.upper().signum() == 0 ? NONE
                : with.times(Fraction.made(all.lower(), all.upper())).told(upper);
        }

        int often(int row, int i, int n, int set) {
            if (now == null) {
                return STATE;
            }
            if (!in(row, 0, 7) || !in(n, 0, 10) || set < 0 || set > (1 << now.people.size()) - 1) {
                return BAD;
            }
            if (rows[row] == null) {
                return found(NULL);
            }
            if (i < 0 || (long) i + n > rows[row].length) {
                return found(PLACE);
            }
            int slots = 0;
            for (int k = i; k < i + n; k++) {
                if (!in(rows[row][k], 1, 4)) {
                    return BAD;
                }
                slots += rows[row][k] - 1;
            }
            int able = 0;
            for (int k = 0; k < now.people.size(); k++) {
                One o = now.people.get(k);
                if (o.right && o.sort != 'w' && (set & 1 << k) == 0) {
                    able |= 1 << k;
                }
            }
            return fine(ways(able, slots));
        }

        static int ways(int able, int slots) {
            if (slots == 0) {
                return 1;
            }
            int sum = 0;
            for (int k = 0; k < 3; k++) {
                if ((able & 1 << k) != 0) {
                    sum += ways(able & ~(1 << k), slots - 1);
                }
            }
            return sum;
        }

        int gone(int row, int n, int seed, int what) {
            boolean fits = now != null && in(n, 1, 20) && in(seed, 1, 999999) && in(what, -2, now.people.size() - 1);
            int refusal = habitsRefused(row, fits);
            if (refusal != 0) {
                return refusal;
            }
            Place place = now.copy();
            long x = seed;
            int lived = 0;
            int stood = 0;
            while (stood < n) {
                if (!place.evening) {
                    x = draw(place, x);
                    lived++;
                }
                int who = firstAgain(place, rows[row]);
                if (who >= 0) {
                    repeat(place, who);
                } else {
                    close(place);
                    stood++;
                }
            }
            return what == -1 ? lived : what == -2 ? place.rights() : place.people.get(what).purse;
        }

        int image(int k) {
            if (!in(k, 0, 1)) {
                return BAD;
            }
            if (now == null) {
                return STATE;
            }
            images[k] = now.copy();
            return 1;
        }

        int restore(int k) {
            if (!in(k, 0, 1)) {
                return BAD;
            }
            if (images[k] == null) {
                return STATE;
            }
            now = images[k].copy();
            acts.clear();
            return 1;
        }

        int kind(int i) {
            return one(i) == null ? BAD : 1 + "fgswx".indexOf(one(i).sort);
        }

        int as(int i, int kind) {
            if (one(i) == null || !in(kind, 0, 5)) {
                return BAD;
            }
            String[] are = {"fgswx", "fgs", "g", "s", "wx", "x"};
            return are[kind].indexOf(one(i).sort) >= 0 ? fine(i) : found(KIND);
        }

        int ask(int i, int what) {
            One o = one(i);
            if (o == null || !in(what, 0, 1)) {
                return BAD;
            }
            trace.clear();
            String sizes = "f:11,10,21,20 g:12,11,10,24,21,20 s:11,10,22,21,20 w:13,10 x:14,13,10";
            String marks = "f:21,20 g:24,21,20 s:22,21,20 w:23,20,13,10 x:23,20,14,13,10";
            for (String told : (what == 0 ? sizes : marks).split(" ")) {
                if (told.charAt(0) == o.sort) {
                    for (String body : told.substring(2).split(",")) {
                        trace.add(Integer.parseInt(body));
                    }
                }
            }
            int farmersMark = i + o.memory;
            int widowsSize = o.sort == 'x' ? 2 * (o.purse - 100) : o.purse - 100;
            int mark = switch (o.sort) {
                case 'f' -> farmersMark;
                case 'g' -> 2 * farmersMark;
                case 's' -> farmersMark - 1000;
                default -> i - widowsSize;
            };
            if (what == 1) {
                return mark;
            }
            return switch (o.sort) {
                case 'f', 's' -> o.purse + mark;
                case 'g' -> -(o.purse + mark);
                default -> widowsSize;
            };
        }

        int trace(int i) {
            return i < 0 || i >= trace.size() ? NONE : trace.get(i);
        }

        int count(int what) {
            switch (what) {
                case 0: return (int) Arrays.stream(rows).filter(r -> r != null).count();
                case 1: return now == null ? 0 : now.people.size();
                case 2: return now == null ? 0 : now.date();
                case 3: return now == null ? 0 : now.lives.get(now.date());
                case 4: return now == null ? 0 : now.rights();
                case 5: return now != null && now.evening ? 1 : 0;
                case 6: return acts.size();
                case 7: return tape.length();
                default: return BAD;
            }
        }
    }
}
