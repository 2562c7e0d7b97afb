import java.util.function.Supplier;

/**
 * Where several refusals fit one call, the first of them is answered; and what is refused, or found, changes
 * nothing but status(). For the latter each refused call is made on one of two objects that were led alike;
 * behind it both are asked for all that can be seen of them, and must answer alike.
 */
public final class RefusalsTest {
    private static final int NONE = -1000000, BAD = -1000001, STATE = -1000002, FULL = -1000003;
    private static final int NULL = -1000011, PLACE = -1000012, KIND = -1000013, SIZE = -1000014, STORE = -1000015;
    private static final int MIN = Integer.MIN_VALUE, MAX = Integer.MAX_VALUE;
    private static final int PROBES = 7;

    private static int checks = 0;
    private static int wrong = 0;

    private interface Call {
        long of(LivedAgain x);
    }

    public static void main(String[] args) {
        rowsRefuse();
        textsRefuse();
        daysRefuse();
        foretoldRefuses();
        oftenAndGoneRefuse();
        imagesRefuse();
        askedRefuses();
        answersThatChangeNothing();
        System.out.println("refusals: " + checks + " checks, " + wrong + " wrong");
        if (wrong != 0) {
            System.exit(1);
        }
    }

    // ---- scenes: objects in which much can be seen

    private static void feedAll(LivedAgain x, String text) {
        for (int i = 0; i < text.length(); i++) {
            x.feed(text.charAt(i));
        }
    }

    private static void lay(LivedAgain x, int row, int lane, int... items) {
        x.row(row, lane, items.length);
        for (int i = 0; i < items.length; i++) {
            x.set(row, i, items[i]);
        }
    }

    /** ROW 0: HABITS; 1: too short for them; 2: with an ITEM that is none; 3: LIVES; 4: empty; 5 .. 7: missing. */
    private static void layRows(LivedAgain x) {
        lay(x, 0, 0, 1, 2, 0, 1);
        lay(x, 1, 0, 3, 2);
        lay(x, 2, 1, 0, 1, 3);
        lay(x, 3, 2, 2, 1, 3, 4, 5);
        x.row(4, 2, 0);
    }

    private static LivedAgain noVillage() {
        LivedAgain x = new LivedAgain();
        layRows(x);
        feedAll(x, "v;f11");
        x.village();
        feedAll(x, "v;w1,2,3;");
        x.copy(0, 0, 3, 0, 0);
        return x;
    }

    /** DATE 1 at DAWN, with a MEMORY; PERSON 1, who had it AGAIN, and a stranger have no RIGHT, a widow has one. */
    private static LivedAgain atDawn() {
        LivedAgain x = noVillage();
        x.village();
        feedAll(x, "v;w5,10,3;g4,20,9;x6,7,5;");
        x.village();
        x.live(5);
        x.image(0);
        x.stand();
        x.live(1);
        x.again(1);
        x.ask(1, 0);
        feedAll(x, "v;s1,1,1;");
        x.set(0, 9, 9);
        return x;
    }

    private static LivedAgain inTheEvening() {
        LivedAgain x = atDawn();
        x.live(3);
        return x;
    }

    /** A farmer, a saint, a gambler: all have a RIGHT; how a ROW's ITEMS are can be seen by that. */
    private static LivedAgain threeRights() {
        LivedAgain x = new LivedAgain();
        feedAll(x, "v;f5,10,3;s4,20,9;g6,7,5;");
        x.village();
        layRows(x);
        x.as(0, 2);
        return x;
    }

    private static LivedAgain atLastDate() {
        LivedAgain x = new LivedAgain();
        feedAll(x, "v;f5,10,3;");
        x.village();
        for (int date = 0; date < 99; date++) {
            x.live(1);
            x.stand();
        }
        x.live(1);
        x.drop(7);
        return x;
    }

    private static LivedAgain fullTape() {
        LivedAgain x = new LivedAgain();
        feedAll(x, "v;f5,10,3;");
        x.village();
        feedAll(x, "v;f1,2,3;" + ";".repeat(51));
        x.drop(7);
        return x;
    }

    // ---- twins

    private static void due(String name, long got, long want) {
        checks++;
        if (got != want) {
            wrong++;
            System.out.println(name + " answered " + got + ", due is " + want);
        }
    }

    /** A refusal leaves status(), a finding makes it its number. */
    private static void refused(String name, Supplier<LivedAgain> scene, long want, Call call) {
        for (int probe = 0; probe < PROBES; probe++) {
            LivedAgain x = scene.get();
            LivedAgain twin = scene.get();
            due(name, call.of(x), want);
            int before = twin.status();
            due(name + ", status()", x.status(), want <= NULL && want >= STORE ? -1000010 - want : before);
            look(name, probe, x, twin);
        }
    }

    private static void alike(String name, LivedAgain x, LivedAgain twin, Call call) {
        due(name, call.of(x), call.of(twin));
    }

    private static void look(String name, int probe, LivedAgain x, LivedAgain twin) {
        switch (probe) {
            case 0: lookAtAll(name, x, twin); break;
            case 1: lookAtLives(name, x, twin); break;
            case 2: lookAtTape(name, x, twin); break;
            case 3: lookAtActs(name, x, twin); break;
            case 4: lookAtImages(name, x, twin); break;
            case 5: lookAtRows(name, x, twin); break;
            default: lookAtItems(name, x, twin); break;
        }
    }

    private static void lookAtAll(String name, LivedAgain x, LivedAgain twin) {
        for (int what = 0; what < 8; what++) {
            int w = what;
            alike(name + ", then count(" + w + ")", x, twin, y -> y.count(w));
            for (int person = 0; person < 3; person++) {
                int p = person;
                alike(name + ", then person(" + p + ", " + w + ")", x, twin, y -> y.person(p, w));
            }
        }
        for (int person = 0; person < 3; person++) {
            int p = person;
            alike(name + ", then kind(" + p + ")", x, twin, y -> y.kind(p));
        }
        for (int i = 0; i < 17; i++) {
            int at = i;
            alike(name + ", then trace(" + at + ")", x, twin, y -> y.trace(at));
        }
        alike(name + ", then fault()", x, twin, LivedAgain::fault);
    }

    private static void lookAtLives(String name, LivedAgain x, LivedAgain twin) {
        for (int date = 0; date < 100; date++) {
            int d = date;
            alike(name + ", then lives(" + d + ")", x, twin, y -> y.lives(d));
        }
    }

    private static void lookAtTape(String name, LivedAgain x, LivedAgain twin) {
        alike(name + ", then village()", x, twin, LivedAgain::village);
        alike(name + ", then fault()", x, twin, LivedAgain::fault);
        for (int what = 0; what < 8; what++) {
            int w = what;
            alike(name + ", then village(), count(" + w + ")", x, twin, y -> y.count(w));
            alike(name + ", then village(), person(0, " + w + ")", x, twin, y -> y.person(0, w));
        }
    }

    private static void lookAtActs(String name, LivedAgain x, LivedAgain twin) {
        for (int i = 0; i < 25; i++) {
            alike(name + ", then undo()", x, twin, LivedAgain::undo);
            for (int what = 2; what < 6; what++) {
                int w = what;
                alike(name + ", then undo(), count(" + w + ")", x, twin, y -> y.count(w));
            }
            alike(name + ", then undo(), PURSE", x, twin, y -> y.person(0, 3));
            alike(name + ", then undo(), MEMORY", x, twin, y -> y.person(1, 5));
            alike(name + ", then undo(), how it went", x, twin, y -> y.person(1, 6));
        }
    }

    private static void lookAtImages(String name, LivedAgain x, LivedAgain twin) {
        for (int k = 0; k < 2; k++) {
            int image = k;
            alike(name + ", then restore(" + k + ")", x, twin, y -> y.restore(image));
            for (int what = 0; what < 8; what++) {
                int w = what;
                alike(name + ", then restore(" + k + "), count(" + w + ")", x, twin, y -> y.count(w));
                alike(name + ", then restore(" + k + "), person(0, " + w + ")", x, twin, y -> y.person(0, w));
            }
        }
    }

    private static void lookAtRows(String name, LivedAgain x, LivedAgain twin) {
        for (int a = 0; a < 8; a++) {
            for (int b = a; b < 8; b++) {
                int from = a;
                int to = b;
                alike(name + ", then copy(" + a + ", 0, " + b + ", 0, 0)", x, twin, y -> y.copy(from, 0, to, 0, 0));
            }
        }
        for (int row = 0; row < 8; row++) {
            int r = row;
            alike(name + ", then drop(" + r + ")", x, twin, y -> y.drop(r));
        }
    }

    /** By three PEOPLE with a RIGHT, without none, or the first: LIVES 1, 2, 3, 4 have 1, 3, 6, 6; 1, 2, 2, 0 ways. */
    private static void lookAtItems(String name, LivedAgain x, LivedAgain twin) {
        alike(name + ", the tape", x, twin, LivedAgain::village);
        feedAll(x, "v;f5,1,1;f5,1,1;f5,1,1;");
        feedAll(twin, "v;f5,1,1;f5,1,1;f5,1,1;");
        alike(name + ", three RIGHTS", x, twin, LivedAgain::village);
        for (int row = 0; row < 8; row++) {
            for (int i = 0; i < 6; i++) {
                int r = row;
                int at = i;
                alike(name + ", then often(" + r + ", " + at + ", 1, 0)", x, twin, y -> y.often(r, at, 1, 0));
                alike(name + ", then often(" + r + ", " + at + ", 1, 1)", x, twin, y -> y.often(r, at, 1, 1));
            }
        }
    }

    // ---- rows

    private static void rowsRefuse() {
        Supplier<LivedAgain> s = RefusalsTest::threeRights;
        refused("row: ROW", s, BAD, x -> x.row(8, 0, 1));
        refused("row: LANE", s, BAD, x -> x.row(3, 3, 1));
        refused("row: n", s, BAD, x -> x.row(3, 0, 41));
        refused("row: SIZE", s, SIZE, x -> x.row(3, 0, -1));
        refused("row: SIZE of a missing ROW", s, SIZE, x -> x.row(7, 0, MIN));
        refused("row: ROW ahead of SIZE", s, BAD, x -> x.row(-1, 0, -1));
        refused("row: LANE ahead of SIZE", s, BAD, x -> x.row(3, -1, -1));
        refused("set: ROW", s, BAD, x -> x.set(8, 0, 1));
        refused("set: ROW ahead of PLACE", s, BAD, x -> x.set(-1, -1, 1));
        refused("set: NULL", s, NULL, x -> x.set(7, 0, 1));
        refused("set: NULL ahead of PLACE", s, NULL, x -> x.set(7, -1, 1));
        refused("set: PLACE", s, PLACE, x -> x.set(3, 5, 1));
        refused("set: PLACE below", s, PLACE, x -> x.set(3, -1, 1));
        refused("set: PLACE of an empty ROW", s, PLACE, x -> x.set(4, 0, 1));
        refused("copy: the one ROW ahead of NULL", s, BAD, x -> x.copy(8, 0, 7, 0, 1));
        refused("copy: the other ROW ahead of NULL", s, BAD, x -> x.copy(7, 0, -1, 0, 1));
        refused("copy: ROW ahead of PLACE", s, BAD, x -> x.copy(3, -1, 8, -1, -1));
        refused("copy: NULL of the one, ahead of PLACE", s, NULL, x -> x.copy(7, -1, 3, 99, 1));
        refused("copy: NULL of the other, ahead of PLACE", s, NULL, x -> x.copy(3, 99, 7, -1, -1));
        refused("copy: NULL of both", s, NULL, x -> x.copy(6, 0, 7, 0, 0));
        refused("copy: STORE", s, STORE, x -> x.copy(0, 0, 3, 0, 1));
        refused("copy: STORE of none", s, STORE, x -> x.copy(0, 0, 3, 0, 0));
        refused("copy: STORE ahead of PLACE", s, STORE, x -> x.copy(0, -1, 3, 99, -1));
        refused("copy: PLACE beyond the one's end", s, PLACE, x -> x.copy(1, 0, 0, 0, 3));
        refused("copy: PLACE beyond the other's end", s, PLACE, x -> x.copy(0, 0, 1, 0, 3));
        refused("copy: PLACE beyond its own end", s, PLACE, x -> x.copy(3, 0, 3, 1, 5));
        refused("copy: PLACE, n below 0", s, PLACE, x -> x.copy(3, 1, 3, 1, -1));
        refused("copy: PLACE, i below 0", s, PLACE, x -> x.copy(3, -1, 3, 0, 2));
        refused("copy: PLACE, j below 0", s, PLACE, x -> x.copy(3, 0, 3, -1, 2));
        refused("drop: ROW", s, BAD, x -> x.drop(8));
        refused("drop: NULL", s, NULL, x -> x.drop(7));
    }

    // ---- texts

    private static void textsRefuse() {
        Supplier<LivedAgain> s = RefusalsTest::atDawn;
        refused("feed: below", s, BAD, x -> x.feed(-1));
        refused("feed: above", s, BAD, x -> x.feed(256));
        refused("feed: FULL", RefusalsTest::fullTape, FULL, x -> x.feed(';'));
        refused("feed: BAD ahead of FULL", RefusalsTest::fullTape, BAD, x -> x.feed(256));
        refused("feed: BAD ahead of FULL", RefusalsTest::fullTape, BAD, x -> x.feed(-1));

        faulty("a village of a FAULT 1", 1, "v;f1,1,1;f1,1,", 14);
        faulty("a village of a FAULT 2", 2, "v;f1,1,1;f11,1,1;", 10);
        faulty("a village of a FAULT 3", 3, "v;f1,1,1;f1,1,1;f1,1,1;f", 23);
        faulty("a village of an empty tape", 1, "", 0);
    }

    /** All stays, but the tape, which is empty then, and the number of the latest FAULT. */
    private static void faulty(String name, int number, String text, int place) {
        for (int probe = 0; probe < PROBES; probe++) {
            LivedAgain x = inTheEvening();
            LivedAgain twin = inTheEvening();
            feedAll(x, "y");
            feedAll(twin, "y");
            x.village();
            twin.village();
            feedAll(x, text);
            due(name, x.village(), -1000100 - place);
            due(name + ", fault()", x.fault(), number);
            due(name + ", status()", x.status(), twin.status());
            x.village();
            look(name, probe, x, twin);
        }
    }

    // ---- days

    private static void daysRefuse() {
        Supplier<LivedAgain> none = RefusalsTest::noVillage;
        Supplier<LivedAgain> dawn = RefusalsTest::atDawn;
        Supplier<LivedAgain> evening = RefusalsTest::inTheEvening;
        Supplier<LivedAgain> last = RefusalsTest::atLastDate;
        refused("live: no VILLAGE", none, STATE, x -> x.live(1));
        refused("live: no VILLAGE ahead of BAD", none, STATE, x -> x.live(0));
        refused("live: SEED below", dawn, BAD, x -> x.live(0));
        refused("live: SEED above", dawn, BAD, x -> x.live(1000000));
        refused("live: BAD ahead of EVENING", evening, BAD, x -> x.live(1000000));
        refused("live: EVENING", evening, STATE, x -> x.live(1));
        refused("live: EVENING of DATE 99", last, STATE, x -> x.live(1));
        refused("again: no such PERSON", evening, BAD, x -> x.again(3));
        refused("again: no such PERSON, no VILLAGE", none, BAD, x -> x.again(0));
        refused("again: no such PERSON at DAWN", dawn, BAD, x -> x.again(-1));
        refused("again: DAWN", dawn, STATE, x -> x.again(1));
        refused("again: DAWN, a widow", dawn, STATE, x -> x.again(0));
        refused("again: a widow", evening, STATE, x -> x.again(0));
        refused("again: no RIGHT", evening, STATE, x -> x.again(1));
        refused("again: a stranger", evening, STATE, x -> x.again(2));
        refused("stand: no VILLAGE", none, STATE, LivedAgain::stand);
        refused("stand: DAWN", dawn, STATE, LivedAgain::stand);
        refused("stand: FULL", last, FULL, LivedAgain::stand);
        refused("stand: DAWN ahead of FULL", RefusalsTest::atDawnOfLastDate, STATE, LivedAgain::stand);
        refused("will: no VILLAGE", none, BAD, x -> x.will(0, 1));
        refused("will: alike", dawn, BAD, x -> x.will(0, 0));
        refused("will: alike ahead of STATE", dawn, BAD, x -> x.will(1, 1));
        refused("will: no such other", dawn, BAD, x -> x.will(0, 3));
        refused("will: no such other, the one has none", dawn, BAD, x -> x.will(1, 3));
        refused("will: no such one, the other has one", dawn, BAD, x -> x.will(3, 0));
        refused("will: the one has none", dawn, STATE, x -> x.will(1, 2));
        refused("will: the one has none, the other one has one", evening, STATE, x -> x.will(1, 0));
        refused("will: both have one", RefusalsTest::threeRights, STATE, x -> x.will(0, 1));
        refused("undo: no VILLAGE", none, STATE, LivedAgain::undo);
        refused("undo: no ACT", RefusalsTest::threeRights, STATE, LivedAgain::undo);
        refused("person: no VILLAGE", none, BAD, x -> x.person(0, 0));
        refused("person: no such PERSON", dawn, BAD, x -> x.person(3, 0));
        refused("person: what", evening, BAD, x -> x.person(0, 8));
        refused("person: how it went at DAWN", dawn, NONE, x -> x.person(0, 6));
        refused("lives: no VILLAGE", none, STATE, x -> x.lives(0));
        refused("lives: no VILLAGE ahead of BAD", none, STATE, x -> x.lives(100));
        refused("lives: below", dawn, BAD, x -> x.lives(-1));
        refused("lives: above", last, BAD, x -> x.lives(100));
        refused("lives: to come", dawn, NONE, x -> x.lives(2));
    }

    private static LivedAgain atDawnOfLastDate() {
        LivedAgain x = atLastDate();
        x.again(0);
        return x;
    }

    // ---- foretold

    private static void foretoldRefuses() {
        Supplier<LivedAgain> none = RefusalsTest::noVillage;
        Supplier<LivedAgain> s = RefusalsTest::atDawn;
        for (boolean upper : new boolean[] {true, false}) {
            refused("lived: no VILLAGE ahead of all", none, STATE, x -> x.lived(8, 0, upper));
            refused("lived: no VILLAGE ahead of NULL", none, STATE, x -> x.lived(7, 1, upper));
            refused("lived: no VILLAGE", none, STATE, x -> x.lived(0, 1, upper));
            refused("lived: ROW", s, BAD, x -> x.lived(8, 1, upper));
            refused("lived: k ahead of NULL", s, BAD, x -> x.lived(7, 5, upper));
            refused("lived: k ahead of PLACE", s, BAD, x -> x.lived(1, 0, upper));
            refused("lived: NULL", s, NULL, x -> x.lived(7, 1, upper));
            refused("lived: PLACE ahead of an ITEM", s, PLACE, x -> x.lived(1, 1, upper));
            refused("lived: PLACE of an empty ROW", s, PLACE, x -> x.lived(4, 1, upper));
            refused("lived: ITEM", s, BAD, x -> x.lived(2, 1, upper));
            refused("mean: no VILLAGE ahead of all", none, STATE, x -> x.mean(8, 9, upper));
            refused("mean: no VILLAGE", none, STATE, x -> x.mean(0, 0, upper));
            refused("mean: ROW", s, BAD, x -> x.mean(-1, 0, upper));
            refused("mean: person ahead of NULL", s, BAD, x -> x.mean(7, 3, upper));
            refused("mean: person ahead of PLACE", s, BAD, x -> x.mean(1, -1, upper));
            refused("mean: NULL", s, NULL, x -> x.mean(7, 0, upper));
            refused("mean: PLACE ahead of an ITEM", s, PLACE, x -> x.mean(1, 0, upper));
            refused("mean: ITEM", s, BAD, x -> x.mean(2, 0, upper));
            refused("worth: no VILLAGE", none, BAD, x -> x.worth(0, 1, upper));
            refused("worth: n", s, BAD, x -> x.worth(0, 4, upper));
            refused("worth: person", s, BAD, x -> x.worth(3, 1, upper));
            refused("knows: no VILLAGE", none, BAD, x -> x.knows(0, 0, 0, upper));
            refused("knows: r", s, BAD, x -> x.knows(0, 11, 0, upper));
            refused("knows: well", s, BAD, x -> x.knows(0, 5, 2, upper));
            refused("knows: person", s, BAD, x -> x.knows(3, 5, 1, upper));
        }
        refused("best: no VILLAGE ahead of all", none, STATE, x -> x.best(8, 9));
        refused("best: no VILLAGE", none, STATE, x -> x.best(0, 0));
        refused("best: ROW", s, BAD, x -> x.best(8, 0));
        refused("best: person ahead of NULL", s, BAD, x -> x.best(7, 3));
        refused("best: person ahead of PLACE", s, BAD, x -> x.best(1, 3));
        refused("best: NULL", s, NULL, x -> x.best(7, 0));
        refused("best: PLACE ahead of an ITEM", s, PLACE, x -> x.best(1, 0));
        refused("best: ITEM", s, BAD, x -> x.best(2, 0));
        refused("best: an ITEM of its own", s, BAD, x -> x.best(2, 2));
        refused("rests: no VILLAGE ahead of BAD", none, STATE, x -> x.rests(-2));
        refused("rests: no VILLAGE", none, STATE, x -> x.rests(-1));
        refused("rests: below", s, BAD, x -> x.rests(-2));
        refused("rests: above", s, BAD, x -> x.rests(3));
    }

    private static void oftenAndGoneRefuse() {
        Supplier<LivedAgain> none = RefusalsTest::noVillage;
        Supplier<LivedAgain> s = RefusalsTest::inTheEvening;
        refused("often: no VILLAGE ahead of all", none, STATE, x -> x.often(8, -1, 11, -1));
        refused("often: no VILLAGE ahead of NULL", none, STATE, x -> x.often(7, 0, 0, 0));
        refused("often: ROW", s, BAD, x -> x.often(8, 0, 0, 0));
        refused("often: n ahead of NULL", s, BAD, x -> x.often(7, 0, 11, 0));
        refused("often: n below, ahead of PLACE", s, BAD, x -> x.often(3, -1, -1, 0));
        refused("often: set ahead of NULL", s, BAD, x -> x.often(7, 0, 1, 8));
        refused("often: set ahead of PLACE", s, BAD, x -> x.often(3, 9, 1, -1));
        refused("often: NULL ahead of PLACE", s, NULL, x -> x.often(7, -1, 1, 0));
        refused("often: PLACE below", s, PLACE, x -> x.often(3, -1, 1, 0));
        refused("often: PLACE ahead of an ITEM", s, PLACE, x -> x.often(3, 4, 2, 0));
        refused("often: ITEM", s, BAD, x -> x.often(3, 4, 1, 0));
        refused("gone: no VILLAGE ahead of all", none, STATE, x -> x.gone(8, 0, 0, -3));
        refused("gone: no VILLAGE", none, STATE, x -> x.gone(0, 1, 1, -1));
        refused("gone: ROW", s, BAD, x -> x.gone(8, 1, 1, -1));
        refused("gone: n ahead of NULL", s, BAD, x -> x.gone(7, 0, 1, -1));
        refused("gone: n ahead of PLACE", s, BAD, x -> x.gone(1, 21, 1, -1));
        refused("gone: SEED ahead of NULL", s, BAD, x -> x.gone(7, 1, 0, -1));
        refused("gone: SEED ahead of PLACE", s, BAD, x -> x.gone(1, 1, 1000000, -1));
        refused("gone: what ahead of NULL", s, BAD, x -> x.gone(7, 1, 1, -3));
        refused("gone: what ahead of PLACE", s, BAD, x -> x.gone(1, 1, 1, 3));
        refused("gone: NULL", s, NULL, x -> x.gone(7, 1, 1, -1));
        refused("gone: PLACE ahead of an ITEM", s, PLACE, x -> x.gone(1, 1, 1, -1));
        refused("gone: ITEM", s, BAD, x -> x.gone(2, 1, 1, -1));
    }

    private static void imagesRefuse() {
        Supplier<LivedAgain> none = RefusalsTest::noVillage;
        Supplier<LivedAgain> s = RefusalsTest::inTheEvening;
        refused("image: BAD ahead of no VILLAGE", none, BAD, x -> x.image(2));
        refused("image: BAD ahead of no VILLAGE", none, BAD, x -> x.image(-1));
        refused("image: no VILLAGE", none, STATE, x -> x.image(0));
        refused("image: BAD", s, BAD, x -> x.image(2));
        refused("restore: BAD ahead of none kept", none, BAD, x -> x.restore(2));
        refused("restore: BAD", s, BAD, x -> x.restore(-1));
        refused("restore: none was kept", none, STATE, x -> x.restore(0));
        refused("restore: none was kept of the other", s, STATE, x -> x.restore(1));
    }

    private static void askedRefuses() {
        Supplier<LivedAgain> none = RefusalsTest::noVillage;
        Supplier<LivedAgain> s = RefusalsTest::inTheEvening;
        refused("kind: no VILLAGE", none, BAD, x -> x.kind(0));
        refused("kind: no such PERSON", s, BAD, x -> x.kind(3));
        refused("as: no VILLAGE", none, BAD, x -> x.as(0, 0));
        refused("as: person ahead of KIND", s, BAD, x -> x.as(3, 1));
        refused("as: no such KIND", s, BAD, x -> x.as(0, 6));
        refused("as: no such KIND", s, BAD, x -> x.as(0, -1));
        refused("as: KIND", s, KIND, x -> x.as(0, 1));
        refused("as: KIND, below its own", s, KIND, x -> x.as(0, 5));
        refused("ask: no VILLAGE", none, BAD, x -> x.ask(0, 0));
        refused("ask: no such PERSON", s, BAD, x -> x.ask(3, 0));
        refused("ask: what", s, BAD, x -> x.ask(0, 2));
        refused("trace: none", s, NONE, x -> x.trace(16));
        refused("trace: below", s, NONE, x -> x.trace(MIN));
        refused("trace: above", s, NONE, x -> x.trace(MAX));
        refused("count: what", s, BAD, x -> x.count(8));
        refused("count: below", s, BAD, x -> x.count(-1));
    }

    // ---- FORETOLD (nothing changes)

    private static void answersThatChangeNothing() {
        Supplier<LivedAgain> none = RefusalsTest::noVillage;
        for (int at = 0; at < 2; at++) {
            Supplier<LivedAgain> s = at == 0 ? RefusalsTest::atDawn : RefusalsTest::inTheEvening;
            changesNothing("lived", s, true, x -> x.lived(0, 2, true));
            changesNothing("mean", s, true, x -> x.mean(0, 1, true));
            changesNothing("best", s, true, x -> x.best(0, 0));
            changesNothing("best", s, true, x -> x.best(0, 1));
            changesNothing("rests", s, false, x -> x.rests(-1));
            changesNothing("rests", s, false, x -> x.rests(2));
            changesNothing("worth", s, false, x -> x.worth(1, 3, false));
            changesNothing("knows", s, false, x -> x.knows(1, 5, 1, true));
            changesNothing("often", s, true, x -> x.often(3, 0, 4, 1));
            changesNothing("gone", s, true, x -> x.gone(0, 20, 9, -1));
            changesNothing("gone", s, true, x -> x.gone(0, 20, 9, 1));
            changesNothing("kind", s, false, x -> x.kind(1));
            changesNothing("as", s, true, x -> x.as(1, 1));
            changesNothing("person", s, false, x -> x.person(1, 7));
            changesNothing("lives", s, false, x -> x.lives(0));
            changesNothing("trace", s, false, x -> x.trace(0));
            changesNothing("count", s, false, x -> x.count(4));
            changesNothing("fault", s, false, LivedAgain::fault);
            changesNothing("status", s, false, LivedAgain::status);
        }
        changesNothing("fault", none, false, LivedAgain::fault);
        changesNothing("count", none, false, x -> x.count(3));
    }

    private static void changesNothing(String name, Supplier<LivedAgain> scene, boolean hasStatus, Call call) {
        for (int probe = 0; probe < PROBES; probe++) {
            LivedAgain x = scene.get();
            LivedAgain twin = scene.get();
            long first = call.of(x);
            due(name + " anew", call.of(x), first);
            due(name + ", status()", x.status(), hasStatus ? 0 : twin.status());
            look(name, probe, x, twin);
        }
    }
}
