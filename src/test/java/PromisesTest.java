/**
 * The promises 1 to 31 of the document, each with answers reckoned by hand. The draws that
 * begin with SEED 1 end in 7, 9, 3, 8, 0, 2 (16807, 282475249, 1622650073, 984943658, 1144108930, 470211272).
 */
public final class PromisesTest {
    private static final int NONE = -1000000, BAD = -1000001, STATE = -1000002, FULL = -1000003;
    private static final int NULL = -1000011, PLACE = -1000012, KIND = -1000013, SIZE = -1000014, STORE = -1000015;
    private static final int MIN = Integer.MIN_VALUE, MAX = Integer.MAX_VALUE;

    private static int promise = 0;
    private static int checks = 0;
    private static int wrong = 0;

    public static void main(String[] args) {
        newObject();
        rowCall();
        setCall();
        copyCall();
        dropCall();
        feedCall();
        villageCall();
        faultCall();
        liveCall();
        againCall();
        standCall();
        willCall();
        undoCall();
        personCall();
        livesCall();
        livedCall();
        meanCall();
        bestCall();
        restsCall();
        worthCall();
        knowsCall();
        oftenCall();
        goneCall();
        imageCall();
        restoreCall();
        kindCall();
        asCall();
        askCall();
        traceCall();
        countCall();
        statusCall();
        System.out.println("promises: " + checks + " checks, " + wrong + " wrong");
        if (wrong != 0) {
            System.exit(1);
        }
    }

    // ---- helpers

    private static void due(String call, long got, long want) {
        checks++;
        if (got != want) {
            wrong++;
            System.out.println("promise " + promise + ": " + call + " answered " + got + ", due is " + want);
        }
    }

    private static int read(LivedAgain x, String text) {
        for (int i = 0; i < text.length(); i++) {
            x.feed(text.charAt(i));
        }
        return x.village();
    }

    private static LivedAgain of(String text) {
        LivedAgain x = new LivedAgain();
        due("village() of " + text, read(x, text) < 0 ? 1 : 0, 0);
        return x;
    }

    private static void lay(LivedAgain x, int row, int lane, int... items) {
        x.row(row, lane, items.length);
        for (int i = 0; i < items.length; i++) {
            x.set(row, i, items[i]);
        }
    }

    /** A village by its text, with HABITS in ROW 0. */
    private static LivedAgain with(String text, int... habits) {
        LivedAgain x = of(text);
        lay(x, 0, 0, habits);
        return x;
    }

    private static void dueLived(LivedAgain x, int k, long upper, long lower) {
        due("lived(0, " + k + ", true)", x.lived(0, k, true), upper);
        due("lived(0, " + k + ", false)", x.lived(0, k, false), lower);
    }

    private static void dueMean(LivedAgain x, int person, long upper, long lower) {
        due("mean(0, " + person + ", true)", x.mean(0, person, true), upper);
        due("mean(0, " + person + ", false)", x.mean(0, person, false), lower);
    }

    private static void dueWorth(LivedAgain x, int person, int n, long upper, long lower) {
        due("worth(" + person + ", " + n + ", true)", x.worth(person, n, true), upper);
        due("worth(" + person + ", " + n + ", false)", x.worth(person, n, false), lower);
    }

    private static void dueKnows(LivedAgain x, int r, int well, long upper, long lower) {
        due("knows(0, " + r + ", " + well + ", true)", x.knows(0, r, well, true), upper);
        due("knows(0, " + r + ", " + well + ", false)", x.knows(0, r, well, false), lower);
    }

    private static void dueAsk(LivedAgain x, int person, int what, int want, int... bodies) {
        due("ask(" + person + ", " + what + ")", x.ask(person, what), want);
        for (int i = 0; i < bodies.length; i++) {
            due("trace(" + i + ")", x.trace(i), bodies[i]);
        }
        due("trace(" + bodies.length + ")", x.trace(bodies.length), NONE);
    }

    // ---- the promises

    private static void newObject() {
        promise = 1;
        LivedAgain x = new LivedAgain();
        for (int what = 0; what < 8; what++) {
            due("count(" + what + ")", x.count(what), 0);
        }
        due("live(1)", x.live(1), STATE);
        due("live(0)", x.live(0), STATE);
        due("lives(-1)", x.lives(-1), STATE);
        due("kind(0)", x.kind(0), BAD);
        due("rests(-1)", x.rests(-1), STATE);
        due("NONE", LivedAgain.NONE, NONE);
        due("BAD", LivedAgain.BAD, BAD);
        due("STATE", LivedAgain.STATE, STATE);
        due("FULL", LivedAgain.FULL, FULL);
    }

    private static void rowCall() {
        promise = 2;
        LivedAgain x = new LivedAgain();
        due("row(0, 0, 0)", x.row(0, 0, 0), 0);
        due("row(7, 2, 40)", x.row(7, 2, 40), 40);
        due("row(8, 0, 1)", x.row(8, 0, 1), BAD);
        due("row(-1, 0, 1)", x.row(-1, 0, 1), BAD);
        due("row(0, 3, 1)", x.row(0, 3, 1), BAD);
        due("row(0, -1, 1)", x.row(0, -1, 1), BAD);
        due("row(0, 0, 41)", x.row(0, 0, 41), BAD);
        due("row(0, 0, MAX)", x.row(0, 0, MAX), BAD);
        due("row(0, 0, -1)", x.row(0, 0, -1), SIZE);
        due("row(0, 0, MIN)", x.row(0, 0, MIN), SIZE);
        due("row(8, 0, -1)", x.row(8, 0, -1), BAD);
        due("row(0, 3, -1)", x.row(0, 3, -1), BAD);
        x.set(7, 39, 5);
        due("row(7, 2, -1)", x.row(7, 2, -1), SIZE);
        due("the row stays", x.copy(7, 39, 7, 0, 1), 1);
        due("row(7, 2, 1)", x.row(7, 2, 1), 1);
        due("no longer place 1", x.set(7, 1, 0), PLACE);
        LivedAgain y = of("v;f5,10,3;");
        lay(y, 0, 0, 2);
        due("ITEMS are 0 again", y.row(0, 0, 1), 1);
        due("lived by HABIT 0", y.lived(0, 1, true), 1);
    }

    private static void setCall() {
        promise = 3;
        LivedAgain x = new LivedAgain();
        due("set(8, 0, 0)", x.set(8, 0, 0), BAD);
        due("set(-1, 0, 0)", x.set(-1, 0, 0), BAD);
        due("set(0, 0, 0)", x.set(0, 0, 0), NULL);
        due("set(0, -1, 0) of none", x.set(0, -1, 0), NULL);
        x.row(0, 0, 2);
        x.row(1, 1, 2);
        x.row(2, 2, 2);
        due("byte 127", x.set(0, 0, 127), 127);
        due("byte 128", x.set(0, 0, 128), -128);
        due("byte 256", x.set(0, 0, 256), 0);
        due("byte -129", x.set(0, 1, -129), 127);
        due("short 32768", x.set(1, 0, 32768), -32768);
        due("short 65537", x.set(1, 1, 65537), 1);
        due("int MIN", x.set(2, 0, MIN), MIN);
        due("int MAX", x.set(2, 1, MAX), MAX);
        due("set(0, 2, 0)", x.set(0, 2, 0), PLACE);
        due("set(0, -1, 0)", x.set(0, -1, 0), PLACE);
        due("set(0, MAX, 0)", x.set(0, MAX, 0), PLACE);
        due("set(0, MIN, 0)", x.set(0, MIN, 0), PLACE);
    }

    private static void copyCall() {
        promise = 4;
        LivedAgain x = of("v;f1,0,0;f1,0,0;f1,0,0;");
        x.row(0, 0, 4);
        x.row(1, 1, 4);
        due("copy(8, 0, 0, 0, 0)", x.copy(8, 0, 0, 0, 0), BAD);
        due("copy(0, 0, 8, 0, 0)", x.copy(0, 0, 8, 0, 0), BAD);
        due("copy(2, 0, -1, 0, 0)", x.copy(2, 0, -1, 0, 0), BAD);
        due("copy(2, 0, 0, 0, 0)", x.copy(2, 0, 0, 0, 0), NULL);
        due("copy(0, 0, 2, 0, 0)", x.copy(0, 0, 2, 0, 0), NULL);
        due("STORE ahead of PLACE", x.copy(0, -1, 1, 9, 9), STORE);
        due("STORE of none", x.copy(0, 0, 1, 0, 0), STORE);
        due("copy(0, 0, 0, 0, 4)", x.copy(0, 0, 0, 0, 4), 4);
        due("copy(0, 4, 0, 4, 0)", x.copy(0, 4, 0, 4, 0), 0);
        due("copy(0, 5, 0, 0, 0)", x.copy(0, 5, 0, 0, 0), PLACE);
        due("copy(0, 0, 0, 5, 0)", x.copy(0, 0, 0, 5, 0), PLACE);
        due("copy(0, -1, 0, 0, 1)", x.copy(0, -1, 0, 0, 1), PLACE);
        due("copy(0, 0, 0, -1, 1)", x.copy(0, 0, 0, -1, 1), PLACE);
        due("copy(0, 0, 0, 0, -1)", x.copy(0, 0, 0, 0, -1), PLACE);
        due("copy(0, 1, 0, 0, 4)", x.copy(0, 1, 0, 0, 4), PLACE);
        due("copy(0, 0, 0, 1, 4)", x.copy(0, 0, 0, 1, 4), PLACE);
        due("copy(0, MAX, 0, 0, 1)", x.copy(0, MAX, 0, 0, 1), PLACE);
        due("copy(0, 1, 0, 0, MAX)", x.copy(0, 1, 0, 0, MAX), PLACE);
        due("copy(0, MIN, 0, MIN, MIN)", x.copy(0, MIN, 0, MIN, MIN), PLACE);
        // 1, 2, 3, 4 becomes 1, 1, 2, 3: as they were ahead, not 1, 1, 1, 1
        lay(x, 3, 2, 1, 2, 3, 4);
        due("copy(3, 0, 3, 1, 3)", x.copy(3, 0, 3, 1, 3), 3);
        due("often of 1, 1", x.often(3, 0, 2, 0), 1);
        due("often of 2", x.often(3, 2, 1, 0), 3);
        due("often of 3", x.often(3, 3, 1, 0), 6);
        lay(x, 4, 2, 4, 4);
        due("copy(4, 0, 3, 2, 2)", x.copy(4, 0, 3, 2, 2), 2);
        due("often of 4", x.often(3, 3, 1, 0), 6);
        due("often of 4, 4", x.often(3, 2, 2, 0), 0);
        due("the first ones stay", x.often(3, 0, 2, 0), 1);
    }

    private static void dropCall() {
        promise = 5;
        LivedAgain x = new LivedAgain();
        due("drop(8)", x.drop(8), BAD);
        due("drop(-1)", x.drop(-1), BAD);
        due("drop(0)", x.drop(0), NULL);
        x.row(0, 1, 7);
        x.row(1, 0, 0);
        due("drop(0)", x.drop(0), 7);
        due("drop(1)", x.drop(1), 0);
        due("drop(0) again", x.drop(0), NULL);
        due("set of it", x.set(0, 0, 1), NULL);
    }

    private static void feedCall() {
        promise = 6;
        LivedAgain x = new LivedAgain();
        due("feed(-1)", x.feed(-1), BAD);
        due("feed(256)", x.feed(256), BAD);
        for (int i = 1; i <= 60; i++) {
            due("feed", x.feed(i % 2 == 0 ? 0 : 255), i);
        }
        due("feed(0) of 61", x.feed(0), FULL);
        due("feed(256) of 61", x.feed(256), BAD);
        due("count(7)", x.count(7), 60);
    }

    private static void villageCall() {
        promise = 7;
        dueFault("", 0, 1);
        dueFault("v", 1, 1);
        dueFault("vv;", 1, 1);
        dueFault("V;", 0, 1);
        dueFault("v,", 1, 1);
        dueFault("v;;", 2, 1);
        dueFault("v;5", 2, 1);
        dueFault("v;v;", 2, 1);
        dueFault("v;fg", 3, 1);
        dueFault("v;f,", 3, 1);
        dueFault("v;f11,0,0;", 3, 2);
        dueFault("v;f99,0,0;", 3, 2);
        dueFault("v;f100,0,0;", 3, 1);
        dueFault("v;f010,0,0;", 3, 1);
        dueFault("v;f1;0,0;", 4, 1);
        dueFault("v;f1,a,0;", 5, 1);
        dueFault("v;f1,100,0;", 5, 1);
        dueFault("v;f1,0;0;", 6, 1);
        dueFault("v;f1,0,000;", 7, 1);
        dueFault("v;f1,0,0,", 8, 1);
        dueFault("v;f1,0,0", 8, 1);
        dueFault("v;f1,0,", 7, 1);
        dueFault("v; f1,0,0;", 2, 1);
        dueFault("v;f1,0,0;\n", 9, 1);
        dueFault("v;f0,0,0;f0,0,0;f0,0,0;f0,0,0;", 23, 3);
        dueFault("v;f0,0,0;f0,0,0;f0,0,0;x", 23, 3);
        dueFault("v;f0,0,0;f0,0,0;f0,0,0;y", 23, 1);
        dueFault("v;f0,0,0;f0,0,0;f0,0,0;1", 23, 1);
        dueFault("v;f0,0,0;f0,0,0;f0,0,0;;", 23, 1);
        dueFault("v;f11,777,0;", 3, 2);
        dueFault("v;f" + (char) 0xb2 + ",0,0;", 3, 1);

        LivedAgain x = new LivedAgain();
        due("v;", read(x, "v;"), 0);
        due("rests(-1) of nobody", x.rests(-1), 1);
        due("v;f00,01,99;", read(x, "v;f00,01,99;"), 1);
        due("chance", x.person(0, 0), 0);
        due("gain", x.person(0, 1), 1);
        due("loss", x.person(0, 2), 99);
        due("v;f10,99,99;g10,99,99;s10,99,99;", read(x, "v;f10,99,99;g10,99,99;s10,99,99;"), 3);
        due("gains", x.person(2, 1), 99);

        x.live(1);
        x.again(0);
        x.live(2);
        x.stand();
        due("a faulty text", read(x, "v;q"), -1000102);
        due("PEOPLE stay", x.count(1), 3);
        due("the DATE stays", x.count(2), 1);
        due("ACTS stay", x.count(6), 4);
        due("PURSES stay", x.person(1, 3), 198);
        due("tape empty", x.count(7), 0);

        x.live(1);
        x.again(1);
        x.live(1);
        due("another village, read in the EVENING", read(x, "v;w1,2,3;x4,5,6;"), 2);
        due("DATE 0", x.count(2), 0);
        due("LIVES 0", x.lives(0), 0);
        due("LIVES of DATE 1", x.lives(1), NONE);
        due("DAWN", x.count(5), 0);
        due("no ACT", x.count(6), 0);
        due("RIGHTS but a stranger's", x.count(4), 1);
        due("PURSE 0", x.person(1, 3), 0);
        due("MEMORY 0", x.person(1, 5), 0);
        due("forgotten", x.person(1, 6), NONE);
        due("no third", x.person(2, 0), BAD);
        due("what stood there ahead is no part of it", read(x, "v"), -1000101);
        due("a tape full of figures", read(x, "v;f" + "1".repeat(57)), -1000103);
        due("a full tape without an end", read(x, "v;f1,1,1;".repeat(6) + "v;f1,1"), -1000109);
    }

    private static void dueFault(String text, int place, int number) {
        LivedAgain x = new LivedAgain();
        due("village() of " + text, read(x, text), -1000100 - place);
        due("fault() of " + text, x.fault(), number);
        due("count(7) behind " + text, x.count(7), 0);
        due("no village by " + text, x.lives(0), STATE);
    }

    private static void faultCall() {
        promise = 8;
        LivedAgain x = new LivedAgain();
        due("fault()", x.fault(), 0);
        read(x, "v;f11,0,0;");
        due("fault()", x.fault(), 2);
        read(x, "v;");
        due("fault() stays", x.fault(), 2);
        read(x, "w;");
        due("fault()", x.fault(), 1);
        read(x, "v;x0,0,0;x0,0,0;x0,0,0;x");
        due("fault()", x.fault(), 3);
    }

    private static void liveCall() {
        promise = 9;
        LivedAgain x = of("v;f8,1,1;f9,1,1;f4,1,1;");
        due("live(0)", x.live(0), BAD);
        due("live(1000000)", x.live(1000000), BAD);
        due("live(-1)", x.live(-1), BAD);
        due("live(1): 7, 9, 3", x.live(1), 5);
        due("live(1) in the EVENING", x.live(1), STATE);
        due("live(0) in the EVENING", x.live(0), BAD);
        due("live(1): 7 by 7", of("v;f7,1,1;f10,1,1;f3,1,1;").live(1), 2);
        due("live(1): nobody", of("v;").live(1), 0);
        // 999999 * 16807 mod 2147483647 = 1774015664
        due("live(999999): 4", of("v;f5,1,1;").live(999999), 1);
        due("live(999999): 4 by 4", of("v;f4,1,1;").live(999999), 0);
        // MEMORY makes the odds 8, and 9 for a saint
        LivedAgain y = of("v;f7,1,1;s0,1,1;");
        due("live(1): 7 by 7", y.live(1), 0);
        y.again(0);
        due("live(1): 7 by 8", y.live(1), 1);
        LivedAgain s = of("v;s6,1,1;");
        s.live(1);
        s.again(0);
        due("live(1): 7 by 8 of a saint", s.live(1), 1);
    }

    private static void againCall() {
        promise = 10;
        LivedAgain x = of("v;f5,10,3;w5,10,3;x5,10,3;");
        due("again(0) at DAWN", x.again(0), STATE);
        due("again(3)", x.again(3), BAD);
        due("again(-1)", x.again(-1), BAD);
        x.live(1);
        due("a widow", x.again(1), STATE);
        due("a stranger without a RIGHT", x.again(2), STATE);
        due("again(0)", x.again(0), 1);
        due("DAWN", x.count(5), 0);
        due("the same DATE", x.count(2), 0);
        due("no RIGHT", x.person(0, 4), 0);
        due("forgotten", x.person(0, 6), NONE);
        due("its ODDS", x.person(0, 7), 6);
        x.live(1);
        due("again(0) anew", x.again(0), STATE);
        due("willed to it", x.will(1, 0), 1);
        due("MEMORY 2", x.again(0), 2);
        due("LIVES", x.count(3), 2);
        LivedAgain y = of("v;w5,10,3;x5,10,3;");
        y.will(0, 1);
        y.live(1);
        due("a stranger with a RIGHT", y.again(1), 1);
    }

    private static void standCall() {
        promise = 11;
        due("no village", new LivedAgain().stand(), STATE);
        LivedAgain x = of("v;f8,10,3;g1,20,9;s1,7,5;");
        due("at DAWN", x.stand(), STATE);
        x.live(1);
        x.again(1);
        x.live(1);
        due("stand()", x.stand(), 2);
        due("farmer", x.person(0, 3), 10);
        due("gambler", x.person(1, 3), -18);
        due("saint", x.person(2, 3), 0);
        due("MEMORY", x.person(1, 5), 0);
        due("no RIGHT still", x.person(1, 4), 0);
        due("next DATE", x.count(2), 1);
        due("at DAWN", x.stand(), STATE);
        LivedAgain y = of("v;w0,1,7;x10,5,1;g10,4,1;");
        y.live(1);
        y.stand();
        due("widow", y.person(0, 3), -7);
        due("stranger", y.person(1, 3), 5);
        due("gambler", y.person(2, 3), 8);
        LivedAgain z = of("v;");
        for (int date = 0; date < 99; date++) {
            z.live(1);
            due("stand()", z.stand(), 1);
        }
        due("DATE 99", z.count(2), 99);
        due("at DAWN", z.stand(), STATE);
        due("live(1)", z.live(1), 0);
        due("stand() at DATE 99", z.stand(), FULL);
        due("it is EVENING yet", z.count(5), 1);
        due("lives(99)", z.lives(99), 1);
        due("gone beyond the last DATE", gone20(z), 19);
    }

    private static int gone20(LivedAgain x) {
        x.row(0, 0, 3);
        return x.gone(0, 20, 1, -1);
    }

    private static void willCall() {
        promise = 12;
        LivedAgain x = of("v;f5,1,1;w5,1,1;x5,1,1;");
        due("alike", x.will(0, 0), BAD);
        due("will(0, 3)", x.will(0, 3), BAD);
        due("will(-1, 0)", x.will(-1, 0), BAD);
        due("will(2, 0): none", x.will(2, 0), STATE);
        due("will(0, 1): has one", x.will(0, 1), STATE);
        due("will(1, 2)", x.will(1, 2), 2);
        due("RIGHTS", x.count(4), 5);
        x.live(1);
        due("in the EVENING", x.will(2, 1), 2);
        due("RIGHTS", x.count(4), 3);
        x.again(0);
        due("will(1, 0)", x.will(1, 0), 1);
        due("RIGHTS", x.count(4), 1);
    }

    private static void undoCall() {
        promise = 13;
        LivedAgain x = of("v;f8,10,3;x5,1,1;");
        due("none", x.undo(), STATE);
        x.live(1);
        x.again(0);
        x.live(1);
        x.stand();
        x.live(3);
        due("a day LIVED", x.undo(), 4);
        due("DAWN", x.count(5), 0);
        due("LIVES", x.lives(1), 0);
        due("it STANDS", x.undo(), 3);
        due("EVENING", x.count(5), 1);
        due("DATE", x.count(2), 0);
        due("PURSE", x.person(0, 3), 0);
        due("MEMORY", x.person(0, 5), 1);
        due("it went well", x.person(0, 6), 1);
        due("LIVES", x.lives(0), 2);
        due("LIVES to come", x.lives(1), NONE);
        due("a day LIVED", x.undo(), 2);
        due("LIVES", x.lives(0), 1);
        due("AGAIN", x.undo(), 1);
        due("RIGHT", x.person(0, 4), 1);
        due("MEMORY", x.person(0, 5), 0);
        due("how it went", x.person(0, 6), 1);
        due("will(0, 1)", x.will(0, 1), 1);
        due("WILLED", x.undo(), 1);
        due("RIGHTS", x.count(4), 1);
        due("the first", x.undo(), 0);
        due("none", x.undo(), STATE);
        LivedAgain w = of("v;f8,10,3;x5,1,4;");
        w.live(1);
        w.stand();
        w.live(7);
        w.will(0, 1);
        w.stand();
        due("PURSE", w.person(0, 3), 7);
        due("it STANDS", w.undo(), 4);
        due("PURSE", w.person(0, 3), 10);
        due("PURSE", w.person(1, 3), -4);
        due("how it went", w.person(0, 6), 0);
        due("EVENING", w.count(5), 1);
        LivedAgain y = of("v;");
        for (int date = 0; date < 13; date++) {
            y.live(1);
            y.stand();
        }
        due("24 at most", y.count(6), 24);
        for (int kept = 23; kept >= 0; kept--) {
            due("undo()", y.undo(), kept);
        }
        due("none", y.undo(), STATE);
        due("the oldest forgotten", y.count(2), 1);
        due("at DAWN", y.count(5), 0);
        y.live(1);
        due("anew", y.count(6), 1);
        due("undo()", y.undo(), 0);
        due("refused calls are no ACTS", y.stand(), STATE);
        due("count(6)", y.count(6), 0);
    }

    private static void personCall() {
        promise = 14;
        LivedAgain x = of("v;s9,10,3;x2,4,6;");
        int[] first = {9, 10, 3, 0, 1, 0, NONE, 9};
        int[] second = {2, 4, 6, 0, 0, 0, NONE, 2};
        for (int what = 0; what < 8; what++) {
            due("person(0, " + what + ")", x.person(0, what), first[what]);
            due("person(1, " + what + ")", x.person(1, what), second[what]);
        }
        due("person(0, 8)", x.person(0, 8), BAD);
        due("person(0, -1)", x.person(0, -1), BAD);
        due("person(2, 0)", x.person(2, 0), BAD);
        due("person(-1, 0)", x.person(-1, 0), BAD);
        due("person(MAX, MIN)", x.person(MAX, MIN), BAD);
        x.live(1);
        due("went well", x.person(0, 6), 1);
        due("did not", x.person(1, 6), 0);
        x.again(0);
        due("ODDS, 10 at most", x.person(0, 7), 10);
        due("CHANCE stays", x.person(0, 0), 9);
        due("MEMORY", x.person(0, 5), 1);
    }

    private static void livesCall() {
        promise = 15;
        LivedAgain x = of("v;f5,1,1;f5,1,1;f5,1,1;");
        due("so far", x.lives(0), 0);
        for (int i = 0; i < 3; i++) {
            x.live(1);
            x.again(i);
        }
        x.live(1);
        due("so far", x.lives(0), 4);
        due("to come", x.lives(1), NONE);
        x.stand();
        x.live(1);
        x.stand();
        due("lives(0)", x.lives(0), 4);
        due("lives(1)", x.lives(1), 1);
        due("lives(2)", x.lives(2), 0);
        due("lives(99)", x.lives(99), NONE);
        due("lives(100)", x.lives(100), BAD);
        due("lives(-1)", x.lives(-1), BAD);
    }

    private static void dueHabitRefusals(LongCall call) {
        LivedAgain none = new LivedAgain();
        due("no VILLAGE, BAD row", call.of(none, 9), STATE);
        LivedAgain x = of("v;f5,10,3;g5,10,3;");
        due("ROW 8", call.of(x, 8), BAD);
        due("ROW -1", call.of(x, -1), BAD);
        due("missing", call.of(x, 0), NULL);
        lay(x, 0, 0, 3);
        due("too short, no HABIT", call.of(x, 0), PLACE);
        due("status()", x.status(), 2);
        lay(x, 0, 0, 0, 3);
        due("no HABIT", call.of(x, 0), BAD);
        due("status() of the latest set", x.status(), 0);
        lay(x, 0, 0, -1, 0);
        due("no HABIT", call.of(x, 0), BAD);
        lay(x, 0, 1, 2, 1, 7);
        due("only the first ITEMS count", call.of(x, 0) == BAD ? 1 : 0, 0);
        x.drop(1);
        due("status()", x.status(), 1);
        call.of(x, 0);
        due("status() is 0 again", x.status(), 0);
    }

    private interface LongCall {
        long of(LivedAgain x, int row);
    }

    private static void livedCall() {
        promise = 16;
        dueHabitRefusals((x, row) -> x.lived(row, 1, true));
        LivedAgain x = with("v;f5,10,3;", 1);
        due("k 0", x.lived(0, 0, true), BAD);
        due("k 5", x.lived(0, 5, true), BAD);
        due("k 5 ahead of NULL", x.lived(3, 5, true), BAD);
        dueLived(x, 1, 1, 2);
        dueLived(x, 2, 1, 2);
        dueLived(x, 3, 0, 1);
        dueLived(with("v;f5,10,3;", 2), 2, 1, 1);
        dueLived(with("v;w5,10,3;", 2), 1, 1, 1);
        dueLived(with("v;x5,10,3;", 2), 1, 1, 1);
        dueLived(with("v;"), 1, 1, 1);
        // three who always would: four LIVES
        dueLived(with("v;f5,1,1;f5,1,1;f5,1,1;", 2, 2, 2), 4, 1, 1);
        // three, if their own deed fails: 1/8 at once
        LivedAgain y = with("v;f5,1,1;f5,1,1;f5,1,1;", 1, 1, 1);
        dueLived(y, 1, 1, 8);
        // RIGHTS as they are now, MEMORIES whatever there are now do not count
        y.live(1);
        y.again(0);
        dueLived(y, 1, 1, 4);
        LivedAgain z = of("v;w5,10,3;x5,10,3;");
        z.will(0, 1);
        lay(z, 0, 0, 0, 1);
        dueLived(z, 2, 1, 2);
        due("nothing changes", z.count(4), 2);
        due("nothing changes", z.count(6), 1);
    }

    private static void meanCall() {
        promise = 17;
        dueHabitRefusals((x, row) -> x.mean(row, 0, true));
        LivedAgain x = with("v;f5,10,3;", 1);
        due("person 1", x.mean(0, 1, true), BAD);
        due("person -1", x.mean(0, -1, true), BAD);
        due("person 1 ahead of NULL", x.mean(3, 1, true), BAD);
        dueMean(x, 0, 37, 5);
        dueMean(with("v;f5,10,3;", 2), 0, 24, 5);
        dueMean(with("v;f5,10,3;", 0), 0, 7, 2);
        dueMean(with("v;g4,20,9;", 0), 0, 26, 5);
        dueMean(with("v;s6,7,5;", 2), 0, 28, 5);
        dueMean(with("v;w5,10,3;", 2), 0, 7, 2);
        dueMean(with("v;f0,10,3;", 0), 0, -3, 1);
        dueMean(with("v;f1,5,1;", 0), 0, -2, 5);
        dueMean(with("v;f5,0,0;", 1), 0, 0, 1);
        // the first has the day AGAIN ahead of the second, who then may have it, too
        LivedAgain y = with("v;f0,10,0;f5,10,0;", 1, 1);
        dueMean(y, 0, 1, 1);
        dueMean(y, 1, 8, 1);
        dueLived(y, 1, 0, 1);
        dueLived(y, 2, 1, 2);
        dueLived(y, 3, 1, 2);
    }

    private static void bestCall() {
        promise = 18;
        dueHabitRefusals((x, row) -> x.best(row, 0));
        LivedAgain x = with("v;f5,10,3;", 2);
        due("best(0, 0)", x.best(0, 0), 1);
        due("best(0, 1)", x.best(0, 1), BAD);
        due("the ROW stays", x.lived(0, 2, true), 1);
        due("a widow: the least", with("v;w5,10,3;", 2).best(0, 0), 0);
        due("a stranger: the least", with("v;x5,10,3;", 2).best(0, 0), 0);
        due("no difference", with("v;f5,0,0;", 2).best(0, 0), 0);
        due("always well", with("v;f10,5,5;", 2).best(0, 0), 0);
        due("never well so far", with("v;f0,5,5;", 0).best(0, 0), 1);
    }

    private static void restsCall() {
        promise = 19;
        due("no VILLAGE", new LivedAgain().rests(9), STATE);
        LivedAgain x = of("v;f5,10,3;");
        due("rests(-1)", x.rests(-1), 1);
        due("rests(0)", x.rests(0), 1);
        due("rests(1)", x.rests(1), BAD);
        due("rests(-2)", x.rests(-2), BAD);
        due("rests(MIN)", x.rests(MIN), BAD);
        LivedAgain w = of("v;w5,10,3;");
        due("any HABIT of a widow", w.rests(-1), 3);
        due("the first", w.rests(0), 0);
        LivedAgain y = of("v;w5,10,3;f5,10,3;x1,1,1;");
        due("two of them", y.rests(-1), 9);
        due("rests(0)", y.rests(0), 0);
        due("rests(1)", y.rests(1), 1);
        due("rests(2)", y.rests(2), 0);
        due("nobody", of("v;").rests(-1), 1);
        due("nobody", of("v;").rests(0), BAD);
        // never well so far: AGAIN either way
        due("two HABITS alike", of("v;f0,5,5;").rests(-1), 2);
        due("the first of them", of("v;f0,5,5;").rests(0), 1);
    }

    private static void worthCall() {
        promise = 20;
        due("no VILLAGE", new LivedAgain().worth(0, 1, true), BAD);
        LivedAgain x = of("v;f5,10,3;w5,10,3;x5,10,3;");
        due("n 0", x.worth(0, 0, true), BAD);
        due("n 4", x.worth(0, 4, false), BAD);
        due("person 3", x.worth(3, 1, true), BAD);
        due("person -1", x.worth(-1, 1, true), BAD);
        dueWorth(x, 0, 1, 39, 10);
        dueWorth(x, 0, 2, 117, 20);
        dueWorth(x, 0, 3, 273, 40);
        dueWorth(x, 1, 3, 0, 1);
        dueWorth(x, 2, 1, 39, 10);
        x.live(1);
        x.again(0);
        dueWorth(x, 0, 1, 39, 10);
        dueWorth(of("v;f10,9,9;"), 0, 3, 0, 1);
        // always ill: AGAIN brings 1/10 of 10 more, on any one DATE
        dueWorth(of("v;f0,10,0;"), 0, 1, 1, 1);
        dueWorth(of("v;f0,10,0;"), 0, 3, 1, 1);
        dueWorth(of("v;g4,20,9;"), 0, 1, 87, 5);
        dueWorth(of("v;s6,7,5;"), 0, 1, 56, 25);
    }

    private static void knowsCall() {
        promise = 21;
        due("no VILLAGE", new LivedAgain().knows(0, 5, 1, true), BAD);
        LivedAgain x = of("v;f5,1,1;");
        due("r 11", x.knows(0, 11, 1, true), BAD);
        due("r -1", x.knows(0, -1, 1, true), BAD);
        due("well 2", x.knows(0, 5, 2, true), BAD);
        due("well -1", x.knows(0, 5, -1, true), BAD);
        due("person 1", x.knows(1, 5, 1, true), BAD);
        dueKnows(x, 0, 1, 0, 1);
        dueKnows(x, 10, 0, 1, 1);
        dueKnows(x, 3, 1, 18, 53);
        dueKnows(x, 3, 0, 12, 47);
        dueKnows(of("v;s5,1,1;"), 5, 1, 7, 12);
        dueKnows(of("v;f10,1,1;"), 5, 0, NONE, NONE);
        dueKnows(of("v;f10,1,1;"), 5, 1, 1, 2);
        dueKnows(of("v;f9,1,1;"), 10, 0, NONE, NONE);
        dueKnows(of("v;f9,1,1;"), 9, 0, 0, 1);
        dueKnows(of("v;f0,1,1;"), 0, 1, NONE, NONE);
        dueKnows(of("v;f0,1,1;"), 1, 1, 1, 1);
    }

    private static void oftenCall() {
        promise = 22;
        due("no VILLAGE", new LivedAgain().often(9, 0, 0, 0), STATE);
        LivedAgain x = of("v;f1,0,0;f1,0,0;f1,0,0;");
        due("missing", x.often(0, 0, 0, 0), NULL);
        lay(x, 0, 0, 1, 2, 3, 4, 5, 0);
        due("ROW 8", x.often(8, 0, 0, 0), BAD);
        due("n 11", x.often(0, 0, 11, 0), BAD);
        due("n -1", x.often(0, 0, -1, 0), BAD);
        due("set 8", x.often(0, 0, 1, 8), BAD);
        due("set -1", x.often(0, 0, 1, -1), BAD);
        due("i -1", x.often(0, -1, 1, 0), PLACE);
        due("i 6", x.often(0, 6, 1, 0), PLACE);
        due("i 6, none", x.often(0, 6, 0, 0), 1);
        due("i 7, none", x.often(0, 7, 0, 0), PLACE);
        due("i MAX", x.often(0, MAX, 10, 0), PLACE);
        due("ITEM 5", x.often(0, 3, 2, 0), BAD);
        due("ITEM 0", x.often(0, 5, 1, 0), BAD);
        due("1", x.often(0, 0, 1, 0), 1);
        due("1, 2", x.often(0, 0, 2, 0), 3);
        due("1, 2, 3", x.often(0, 0, 3, 0), 6);
        due("3", x.often(0, 2, 1, 0), 6);
        due("3, 4", x.often(0, 2, 2, 0), 0);
        due("2 without one", x.often(0, 1, 1, 2), 2);
        due("3 without one", x.often(0, 2, 1, 2), 2);
        due("3 without two", x.often(0, 2, 1, 6), 0);
        due("2 without any", x.often(0, 1, 1, 7), 0);
        due("1 without any", x.often(0, 0, 1, 7), 1);
        LivedAgain y = of("v;w1,0,0;x1,0,0;");
        lay(y, 0, 0, 2);
        due("a widow has none to use", y.often(0, 0, 1, 0), 0);
        due("set 4 of two", y.often(0, 0, 1, 4), BAD);
        y.will(0, 1);
        due("a stranger", y.often(0, 0, 1, 0), 1);
        due("a stranger", y.often(0, 0, 1, 1), 1);
        due("without it", y.often(0, 0, 1, 2), 0);
        due("ITEM -1 as a byte", byteOften(), BAD);
    }

    private static int byteOften() {
        LivedAgain x = of("v;");
        lay(x, 0, 0, 255);
        return x.often(0, 0, 1, 0);
    }

    private static void goneCall() {
        promise = 23;
        dueHabitRefusals((x, row) -> x.gone(row, 1, 1, -1));
        LivedAgain x = with("v;f8,10,1;", 1);
        due("n 0", x.gone(0, 0, 1, -1), BAD);
        due("n 21", x.gone(0, 21, 1, -1), BAD);
        due("SEED 0", x.gone(0, 1, 0, -1), BAD);
        due("SEED 1000000", x.gone(0, 1, 1000000, -1), BAD);
        due("what 1", x.gone(0, 1, 1, 1), BAD);
        due("what -3", x.gone(0, 1, 1, -3), BAD);
        due("what ahead of NULL", x.gone(3, 1, 1, -3), BAD);
        // 7 well; 9 ill, AGAIN; 3 well; 8 by 8 ill, no RIGHT any more
        due("LIVES", x.gone(0, 3, 1, -1), 4);
        due("RIGHTS", x.gone(0, 3, 1, -2), 0);
        due("PURSE", x.gone(0, 3, 1, 0), 19);
        due("LIVES of one", x.gone(0, 1, 1, -1), 1);
        due("RIGHTS of one", x.gone(0, 1, 1, -2), 1);
        due("nothing changes", x.count(2), 0);
        due("nothing changes", x.person(0, 3), 0);
        due("nothing changes", x.count(6), 0);
        // in the EVENING, ill: AGAIN at once, that is not LIVED anew; then 7 by 9
        LivedAgain y = of("v;f8,10,1;");
        y.live(10);
        due("168070: 0 by 8", y.person(0, 6), 1);
        y.undo();
        y.live(7);
        due("117649: 9 by 8", y.person(0, 6), 0);
        lay(y, 0, 0, 1);
        due("LIVES from now on", y.gone(0, 1, 1, -1), 1);
        due("PURSE", y.gone(0, 1, 1, 0), 10);
        lay(y, 0, 0, 0);
        due("it STANDS at once", y.gone(0, 1, 1, -1), 0);
        due("PURSE", y.gone(0, 1, 1, 0), -1);
        due("the next DATE", y.gone(0, 2, 1, -1), 1);
        // with MEMORIES, as it is now: 9 by 9 is ill, by 10 it is well
        LivedAgain z = of("v;f9,10,1;");
        z.row(0, 0, 1);
        due("without", z.gone(0, 1, 7, 0), -1);
        z.live(1);
        z.again(0);
        due("with a MEMORY", z.gone(0, 1, 7, 0), 10);
        LivedAgain a = with("v;f1,1,1;f1,1,1;f1,1,1;", 2, 2, 2);
        due("all have it AGAIN", a.gone(0, 1, 1, -1), 4);
        due("RIGHTS", a.gone(0, 1, 1, -2), 0);
        due("then none has a RIGHT", a.gone(0, 3, 1, -1), 6);
        a.live(1);
        due("all have it AGAIN from now on", a.gone(0, 1, 1, -1), 3);
        due("LIVES of nobody", with("v;").gone(0, 20, 1, -1), 20);
        due("no PURSE of nobody", with("v;").gone(0, 20, 1, 0), BAD);
    }

    private static void imageCall() {
        promise = 24;
        LivedAgain x = new LivedAgain();
        due("image(2)", x.image(2), BAD);
        due("image(-1)", x.image(-1), BAD);
        due("no VILLAGE", x.image(0), STATE);
        read(x, "v;f5,1,1;");
        due("image(0)", x.image(0), 1);
        x.live(1);
        due("image(1)", x.image(1), 1);
        due("ACTS stay", x.count(6), 1);
        due("image(2)", x.image(2), BAD);
        x.stand();
        due("image(0) anew", x.image(0), 1);
        x.restore(1);
        due("EVENING", x.count(5), 1);
        x.restore(0);
        due("DATE 1", x.count(2), 1);
    }

    private static void restoreCall() {
        promise = 25;
        LivedAgain x = new LivedAgain();
        due("restore(2)", x.restore(2), BAD);
        due("restore(-1)", x.restore(-1), BAD);
        due("none kept", x.restore(0), STATE);
        read(x, "v;f8,10,3;g5,2,2;");
        x.live(1);
        x.again(1);
        x.live(1);
        x.image(0);
        due("none kept", x.restore(1), STATE);
        x.stand();
        x.live(1);
        x.again(0);
        due("restore(0)", x.restore(0), 1);
        due("no ACT", x.count(6), 0);
        due("undo()", x.undo(), STATE);
        due("EVENING", x.count(5), 1);
        due("DATE", x.count(2), 0);
        due("LIVES", x.lives(0), 2);
        due("LIVES to come", x.lives(1), NONE);
        due("RIGHTS", x.count(4), 1);
        due("MEMORY", x.person(1, 5), 1);
        due("PURSE", x.person(0, 3), 0);
        due("how it went", x.person(0, 6), 1);
        x.stand();
        due("LIVES of DATE 1", x.lives(1), 0);
        read(x, "v;");
        due("restore(0) of another village", x.restore(0), 1);
        due("PEOPLE", x.count(1), 2);
        due("KIND", x.kind(1), 2);
        due("the image is as it was", x.count(5), 1);
        due("fault stays", x.fault(), 0);
    }

    private static void kindCall() {
        promise = 26;
        LivedAgain x = of("v;f1,1,1;g1,1,1;s1,1,1;");
        due("farmer", x.kind(0), 1);
        due("gambler", x.kind(1), 2);
        due("saint", x.kind(2), 3);
        due("kind(3)", x.kind(3), BAD);
        due("kind(-1)", x.kind(-1), BAD);
        read(x, "v;w1,1,1;x1,1,1;");
        due("widow", x.kind(0), 4);
        due("stranger", x.kind(1), 5);
        due("kind(2)", x.kind(2), BAD);
    }

    private static void asCall() {
        promise = 27;
        String[] sorts = {"f", "g", "s", "w", "x"};
        String[] kinds = {"yynnnn", "yyynnn", "yynynn", "ynnnyn", "ynnnyy"};
        for (int s = 0; s < 5; s++) {
            LivedAgain x = of("v;f1,1,1;" + sorts[s] + "1,1,1;");
            for (int kind = 0; kind < 6; kind++) {
                boolean is = kinds[s].charAt(kind) == 'y';
                due(sorts[s] + " as " + kind, x.as(1, kind), is ? 1 : KIND);
                due("status()", x.status(), is ? 0 : 3);
            }
            due("as(1, 6)", x.as(1, 6), BAD);
            due("as(1, -1)", x.as(1, -1), BAD);
            due("as(2, 0)", x.as(2, 0), BAD);
        }
    }

    private static void askCall() {
        promise = 28;
        LivedAgain x = of("v;f10,30,1;g10,20,1;s10,10,1;");
        due("ask(0, 2)", x.ask(0, 2), BAD);
        due("ask(0, -1)", x.ask(0, -1), BAD);
        due("ask(3, 0)", x.ask(3, 0), BAD);
        x.live(1);
        x.stand();
        dueAsk(x, 0, 0, 30, 11, 10, 21, 20);
        dueAsk(x, 0, 1, 0, 21, 20);
        dueAsk(x, 1, 0, -42, 12, 11, 10, 24, 21, 20);
        dueAsk(x, 1, 1, 2, 24, 21, 20);
        dueAsk(x, 2, 0, -988, 11, 10, 22, 21, 20);
        dueAsk(x, 2, 1, -998, 22, 21, 20);
        x.live(1);
        x.again(1);
        dueAsk(x, 1, 1, 4, 24, 21, 20);
        dueAsk(x, 1, 0, -44, 12, 11, 10, 24, 21, 20);
        LivedAgain y = of("v;w10,30,1;x10,20,1;");
        y.live(1);
        y.stand();
        dueAsk(y, 0, 0, -70, 13, 10);
        dueAsk(y, 0, 1, 70, 23, 20, 13, 10);
        dueAsk(y, 1, 0, -160, 14, 13, 10);
        dueAsk(y, 1, 1, 161, 23, 20, 14, 13, 10);
    }

    private static void traceCall() {
        promise = 29;
        LivedAgain x = new LivedAgain();
        due("trace(0)", x.trace(0), NONE);
        due("trace(-1)", x.trace(-1), NONE);
        due("trace(MAX)", x.trace(MAX), NONE);
        read(x, "v;f1,1,1;");
        x.ask(0, 0);
        due("trace(0)", x.trace(0), 11);
        due("ask(0, 7)", x.ask(0, 7), BAD);
        due("a refused ask leaves it", x.trace(3), 20);
        x.ask(0, 1);
        due("trace(0)", x.trace(0), 21);
        due("trace(2)", x.trace(2), NONE);
        read(x, "v;");
        due("trace(1)", x.trace(1), 20);
    }

    private static void countCall() {
        promise = 30;
        LivedAgain x = of("v;f5,1,1;w5,1,1;x5,1,1;");
        due("count(8)", x.count(8), BAD);
        due("count(-1)", x.count(-1), BAD);
        x.row(0, 0, 0);
        x.row(7, 0, 3);
        x.row(7, 1, 3);
        due("ROWS", x.count(0), 2);
        x.drop(0);
        due("ROWS", x.count(0), 1);
        due("PEOPLE", x.count(1), 3);
        due("RIGHTS", x.count(4), 3);
        x.live(1);
        due("EVENING", x.count(5), 1);
        due("LIVES", x.count(3), 1);
        due("ACTS", x.count(6), 1);
        x.stand();
        due("DATE", x.count(2), 1);
        due("LIVES", x.count(3), 0);
        due("DAWN", x.count(5), 0);
        x.feed(1);
        due("bytes", x.count(7), 1);
    }

    private static void statusCall() {
        promise = 31;
        LivedAgain x = of("v;f5,1,1;");
        due("none yet", x.status(), 0);
        x.drop(0);
        due("NULL", x.status(), 1);
        x.row(9, 0, 0);
        due("BAD leaves it", x.status(), 1);
        x.row(0, 0, 2);
        due("none", x.status(), 0);
        x.set(0, 2, 0);
        due("PLACE", x.status(), 2);
        x.live(1);
        x.worth(0, 1, true);
        x.rests(-1);
        x.kind(0);
        x.live(1);
        x.stand();
        due("calls without a ROW leave it", x.status(), 2);
        x.as(0, 2);
        due("KIND", x.status(), 3);
        x.as(0, 9);
        due("BAD leaves it", x.status(), 3);
        x.row(0, 0, -5);
        due("SIZE", x.status(), 4);
        x.row(1, 1, 1);
        x.copy(0, 0, 1, 0, 1);
        due("STORE", x.status(), 5);
        x.as(0, 1);
        due("none", x.status(), 0);
        x.often(5, 0, 0, 0);
        due("NULL", x.status(), 1);
        x.often(0, 0, 1, 0);
        due("a BAD ITEM leaves it", x.status(), 1);
        x.gone(0, 1, 1, -1);
        due("none", x.status(), 0);
        LivedAgain y = new LivedAgain();
        y.drop(0);
        y.lived(0, 1, true);
        due("STATE leaves it", y.status(), 1);
    }
}
