/**
 * Each sentence of the document that names a boundary case, in the document's order: the last value that is
 * taken and the first that is refused, on both sides; what is empty, and what is full. The draws that begin
 * with SEED 1 end in 7, 9, 3, 8, 0, 2; with SEED 10 in 0; with SEED 7 in 9.
 */
public final class BoundariesTest {
    private static final int NONE = -1000000, BAD = -1000001, STATE = -1000002, FULL = -1000003;
    private static final int NULL = -1000011, PLACE = -1000012, KIND = -1000013, SIZE = -1000014, STORE = -1000015;
    private static final int MIN = Integer.MIN_VALUE, MAX = Integer.MAX_VALUE;
    private static final String THREE = "v;f5,10,3;g4,20,9;s6,7,5;";

    private static String sentence = "";
    private static int checks = 0;
    private static int wrong = 0;

    private interface Call {
        long of(int v);
    }

    public static void main(String[] args) {
        terms();
        rowsOfItems();
        tapeAndTokens();
        numbersOfPersons();
        peopleAndFaults();
        newVillage();
        oddsAndDeeds();
        draws();
        daysAgain();
        daysThatStand();
        rightsWilled();
        actsUndone();
        habits();
        livedSoOften();
        means();
        bestHabits();
        rests();
        worths();
        knowledge();
        oftenSo();
        goneThrough();
        images();
        kinds();
        asks();
        tellings();
        statuses();
        wildNumbers();
        System.out.println("boundaries: " + checks + " checks, " + wrong + " wrong");
        if (wrong != 0) {
            System.exit(1);
        }
    }

    // ---- helpers

    private static void due(String call, long got, long want) {
        checks++;
        if (got != want) {
            wrong++;
            System.out.println("\"" + sentence + "\": " + call + " answered " + got + ", due is " + want);
        }
    }

    /** The two last numbers that are taken, and those beyond them, that are refused. */
    private static void edges(String name, int least, int most, int refusal, Call call) {
        taken(name, least, refusal, call);
        taken(name, most, refusal, call);
        refusedBelow(name, least, refusal, call);
        refusedAbove(name, most, refusal, call);
    }

    private static void taken(String name, int v, int refusal, Call call) {
        due(name + " of " + v + " is taken", call.of(v) == refusal ? refusal : 0, 0);
    }

    private static void refusedBelow(String name, int least, int refusal, Call call) {
        due(name + " of " + (least - 1), call.of(least - 1), refusal);
        due(name + " of MIN", call.of(MIN), refusal);
    }

    private static void refusedAbove(String name, int most, int refusal, Call call) {
        due(name + " of " + (most + 1), call.of(most + 1), refusal);
        due(name + " of MAX", call.of(MAX), refusal);
    }

    private static void feedAll(LivedAgain x, String text) {
        for (int i = 0; i < text.length(); i++) {
            x.feed(text.charAt(i));
        }
    }

    private static int read(LivedAgain x, String text) {
        feedAll(x, text);
        return x.village();
    }

    private static LivedAgain of(String text) {
        LivedAgain x = new LivedAgain();
        due("village() of " + text + " is read", Math.min(0, read(x, text)), 0);
        return x;
    }

    private static LivedAgain inTheEvening(String text, int seed) {
        LivedAgain x = of(text);
        x.live(seed);
        return x;
    }

    private static void lay(LivedAgain x, int row, int lane, int... items) {
        x.row(row, lane, items.length);
        for (int i = 0; i < items.length; i++) {
            x.set(row, i, items[i]);
        }
    }

    /** A village by its text, with HABITS in ROW 0. */
    private static LivedAgain with(String text, int... habits) {
        LivedAgain x = of(text);
        lay(x, 0, 0, habits);
        return x;
    }

    private static LivedAgain atDate(String text, int date) {
        LivedAgain x = of(text);
        for (int d = 0; d < date; d++) {
            x.live(1);
            x.stand();
        }
        return x;
    }

    private static void dueFault(String text, int place, int number) {
        LivedAgain x = new LivedAgain();
        due("village() of " + text, read(x, text), -1000100 - place);
        due("fault() of " + text, x.fault(), number);
    }

    private static void duePeople(String text, int people) {
        LivedAgain x = new LivedAgain();
        due("village() of " + text, read(x, text), people);
        due("fault() of " + text, x.fault(), 0);
        due("count(1) of " + text, x.count(1), people);
    }

    private static void dueLived(LivedAgain x, int k, long upper, long lower) {
        due("lived(0, " + k + ", true)", x.lived(0, k, true), upper);
        due("lived(0, " + k + ", false)", x.lived(0, k, false), lower);
    }

    private static void dueMean(LivedAgain x, int person, long upper, long lower) {
        due("mean(0, " + person + ", true)", x.mean(0, person, true), upper);
        due("mean(0, " + person + ", false)", x.mean(0, person, false), lower);
    }

    private static void dueWorth(String text, int n, long upper, long lower) {
        LivedAgain x = of(text);
        due("worth(0, " + n + ", true) of " + text, x.worth(0, n, true), upper);
        due("worth(0, " + n + ", false) of " + text, x.worth(0, n, false), lower);
    }

    private static void dueKnows(String text, int r, int well, long upper, long lower) {
        LivedAgain x = of(text);
        due("knows(0, " + r + ", " + well + ", true) of " + text, x.knows(0, r, well, true), upper);
        due("knows(0, " + r + ", " + well + ", false) of " + text, x.knows(0, r, well, false), lower);
    }

    private static void dueTrace(LivedAgain x, int... bodies) {
        for (int i = 0; i < bodies.length; i++) {
            due("trace(" + i + ")", x.trace(i), bodies[i]);
        }
        for (int i = bodies.length; i < 17; i++) {
            due("trace(" + i + ")", x.trace(i), NONE);
        }
    }

    // ---- Terms

    private static void terms() {
        sentence = "Fractions in lowest terms, the lower one 1 or more (0 is 0 by 1)";
        dueLived(with("v;f5,1,1;", 0), 2, 0, 1);
        dueLived(with("v;f5,1,1;", 0), 1, 1, 1);
        dueLived(with("v;f4,1,1;", 1), 1, 2, 5);
        dueMean(with("v;f5,0,0;", 0), 0, 0, 1);
        dueMean(with("v;f5,7,7;", 0), 0, 0, 1);
        dueMean(with("v;f0,0,99;", 0), 0, -99, 1);
        dueMean(with("v;g0,0,99;", 0), 0, -198, 1);
        dueMean(with("v;g10,99,0;", 0), 0, 198, 1);
        dueMean(with("v;f5,1,2;", 0), 0, -1, 2);
        // 1 of 1000 all go well at once; 999 of 1000 the first one that did not has it AGAIN
        LivedAgain deep = with("v;f1,1,0;f1,1,0;f1,1,0;", 1, 1, 1);
        dueLived(deep, 1, 1, 1000);
        long parts = 0;
        for (int k = 1; k <= 4; k++) {
            parts += deep.lived(0, k, true) * (1000000000000L / Math.max(1, deep.lived(0, k, false)));
        }
        due("all odds make 1", parts, 1000000000000L);
        dueWorth("v;f5,0,0;", 3, 0, 1);
        dueWorth("v;f0,10,0;", 1, 1, 1);
        dueKnows("v;f5,1,1;", 0, 1, 0, 1);
        dueKnows("v;f5,1,1;", 10, 1, 1, 1);

        sentence = "Sets are bits";
        due("live(10): 0, all of three", of("v;f10,0,0;f10,0,0;f10,0,0;").live(10), 7);
        due("count(4)", of("v;f0,0,0;f0,0,0;f0,0,0;").count(4), 7);
        due("count(4)", of("v;x0,0,0;f0,0,0;x0,0,0;").count(4), 2);
        due("count(4) of nobody", of("v;").count(4), 0);
    }

    private static void rowsOfItems() {
        sentence = "ROWS 0 .. 7 are missing (at first)";
        LivedAgain n = new LivedAgain();
        for (int row = 0; row < 8; row++) {
            due("set(" + row + ", 0, 0)", n.set(row, 0, 0), NULL);
            due("drop(" + row + ")", n.drop(row), NULL);
            due("copy(" + row + ", ..)", n.copy(row, 0, row, 0, 0), NULL);
        }
        due("count(0)", n.count(0), 0);
        for (int row = 0; row < 8; row++) {
            due("row(" + row + ", 0, 0)", n.row(row, 0, 0), 0);
            due("count(0)", n.count(0), row + 1);
        }
        LivedAgain x = new LivedAgain();
        edges("row", 0, 7, BAD, v -> x.row(v, 0, 1));
        edges("set", 0, 7, BAD, v -> x.set(v, 0, 0));
        x.row(3, 0, 1);
        edges("copy from", 0, 7, BAD, v -> x.copy(v, 0, 3, 0, 0));
        edges("copy to", 0, 7, BAD, v -> x.copy(3, 0, v, 0, 0));
        edges("drop", 0, 7, BAD, v -> x.drop(v));

        sentence = "a LANE (0 bytes, 1 shorts, 2 ints)";
        edges("row's LANE", 0, 2, BAD, v -> x.row(0, v, 1));

        sentence = "0 to 40 ITEMS; n above 40 is BAD; SIZE: fewer than none";
        due("row(0, 0, 0)", x.row(0, 0, 0), 0);
        due("row(0, 0, 40)", x.row(0, 0, 40), 40);
        refusedAbove("row's n", 40, BAD, v -> x.row(0, 0, v));
        refusedBelow("row's n", 0, SIZE, v -> x.row(0, 0, v));
        due("status()", x.status(), 4);
        due("drop(0)", x.drop(0), 40);

        sentence = "ITEMS, 0 at first";
        LivedAgain h = of("v;f5,1,1;f5,1,1;f5,1,1;");
        for (int lane = 0; lane < 3; lane++) {
            lay(h, 0, lane, 2, 2, 2);
            h.row(0, lane, 3);
            dueLived(h, 1, 1, 1);
        }
        lay(h, 0, 0, 2, 2, 2);
        h.row(0, 0, 0);
        h.row(0, 0, 3);
        dueLived(h, 1, 1, 1);
        lay(h, 0, 0, 2, 2, 2);
        h.drop(0);
        h.row(0, 0, 3);
        dueLived(h, 1, 1, 1);

        sentence = "in place of what is there";
        lay(h, 1, 0, 2, 2, 2);
        due("row(1, 2, 1)", h.row(1, 2, 1), 1);
        due("fewer ITEMS", h.set(1, 1, 0), PLACE);
        due("another LANE", h.set(1, 0, 128), 128);

        setAndCopy();
    }

    private static void setAndCopy() {
        sentence = "ITEM i becomes v, its lowest bits, as many as the LANE has: what it is then";
        LivedAgain x = new LivedAgain();
        x.row(0, 0, 40);
        x.row(1, 1, 40);
        x.row(2, 2, 40);
        int[][] told = {
            {0, 127, 127}, {0, 128, -128}, {0, 255, -1}, {0, 256, 0}, {0, -128, -128}, {0, -129, 127},
            {0, MAX, -1}, {0, MIN, 0}, {1, 128, 128}, {1, 32767, 32767}, {1, 32768, -32768}, {1, 65535, -1},
            {1, 65536, 0}, {1, -32768, -32768}, {1, -32769, 32767}, {1, MAX, -1}, {1, MIN, 0},
            {2, 32768, 32768}, {2, 65536, 65536}, {2, MAX, MAX}, {2, MIN, MIN}, {2, -1, -1}};
        for (int[] t : told) {
            due("set(" + t[0] + ", 39, " + t[1] + ")", x.set(t[0], 39, t[1]), t[2]);
        }

        sentence = "set: PLACE";
        edges("set's i of 40", 0, 39, PLACE, v -> x.set(0, v, 0));
        x.row(3, 0, 1);
        edges("set's i of one", 0, 0, PLACE, v -> x.set(3, v, 0));
        x.row(4, 0, 0);
        due("set(4, 0, 0) of none", x.set(4, 0, 0), PLACE);
        due("set(4, -1, 0) of none", x.set(4, -1, 0), PLACE);

        sentence = "copy: PLACE (i, j, n below 0, or beyond an end)";
        x.row(5, 0, 5);
        edges("copy's i, n 2", 0, 3, PLACE, v -> x.copy(5, v, 0, 0, 2));
        edges("copy's j, n 2", 0, 3, PLACE, v -> x.copy(0, 0, 5, v, 2));
        edges("copy's i, n 0", 0, 5, PLACE, v -> x.copy(5, v, 0, 0, 0));
        edges("copy's j, n 0", 0, 5, PLACE, v -> x.copy(0, 0, 5, v, 0));
        edges("copy's n from 5", 0, 5, PLACE, v -> x.copy(5, 0, 0, 0, v));
        edges("copy's n to 5", 0, 5, PLACE, v -> x.copy(0, 0, 5, 0, v));
        edges("copy's n from 2 on", 0, 3, PLACE, v -> x.copy(5, 2, 0, 0, v));
        due("the whole ROW", x.copy(0, 0, 0, 0, 40), 40);
        due("beyond both ends by sums that wrap", x.copy(0, MAX, 0, MAX, MAX), PLACE);
        due("n MAX of 1 on", x.copy(0, 1, 0, 1, MAX), PLACE);
        due("none of an empty ROW", x.copy(4, 0, 4, 0, 0), 0);
        due("one of an empty ROW", x.copy(4, 0, 0, 0, 1), PLACE);
        due("one to an empty ROW", x.copy(0, 0, 4, 0, 1), PLACE);

        sentence = "STORE (ROWS of two LANES)";
        for (int a = 0; a < 3; a++) {
            for (int b = 0; b < 3; b++) {
                due("copy of LANE " + a + " to " + b, x.copy(a, 0, b, 0, 1), a == b ? 1 : STORE);
                due("copy of none, LANE " + a + " to " + b, x.copy(a, 0, b, 0, 0), a == b ? 0 : STORE);
            }
        }

        sentence = "n ITEMS of a from i on come to b from j on, as they were ahead";
        LivedAgain y = of("v;f5,1,1;f5,1,1;f5,1,1;");
        lay(y, 0, 0, 1, 2, 3, 4);
        y.copy(0, 0, 0, 1, 3);
        dueLives(y, 0, 1, 1, 2, 3);
        lay(y, 0, 0, 1, 2, 3, 4);
        y.copy(0, 1, 0, 0, 3);
        dueLives(y, 0, 2, 3, 4, 4);
        lay(y, 1, 0, 4, 3, 2, 1);
        y.copy(0, 1, 1, 2, 0);
        dueLives(y, 1, 4, 3, 2, 1);
        y.copy(0, 0, 1, 1, 2);
        dueLives(y, 1, 4, 2, 3, 1);
        dueLives(y, 0, 2, 3, 4, 4);

        sentence = "drop: how many ITEMS it had; missing from now on";
        due("drop(0) of 40", x.drop(0), 40);
        due("drop(4) of none", x.drop(4), 0);
        due("drop(0) anew", x.drop(0), NULL);
        due("drop(4) anew", x.drop(4), NULL);
        due("row(0, 0, 1) anew", x.row(0, 0, 1), 1);
        due("drop(0) of one", x.drop(0), 1);
    }

    /** By three PEOPLE with a RIGHT: 1, 3, 6, 6 ways; by two of them: 1, 2, 2, 0. */
    private static void dueLives(LivedAgain x, int row, int... items) {
        int[] ofThree = {BAD, 1, 3, 6, 6};
        int[] ofTwo = {BAD, 1, 2, 2, 0};
        for (int i = 0; i < items.length; i++) {
            due("ITEM " + i + " by three", x.often(row, i, 1, 0), ofThree[items[i]]);
            due("ITEM " + i + " by two", x.often(row, i, 1, 1), ofTwo[items[i]]);
        }
    }

    // ---- TEXTS

    private static void tapeAndTokens() {
        sentence = "feed: a byte (0 to 255)";
        LivedAgain x = new LivedAgain();
        edges("feed", 0, 255, BAD, v -> x.feed(v));
        due("count(7)", x.count(7), 2);

        sentence = "THE TAPE has at most 60 bytes";
        LivedAgain y = new LivedAgain();
        feedAll(y, "v;f10,00,00;g10,00,00;s10,00,00;");
        for (int i = 33; i <= 60; i++) {
            due("feed(59)", y.feed(59), i);
        }
        due("feed(59) of the 61st", y.feed(59), FULL);
        due("count(7)", y.count(7), 60);
        due("village(): the first byte behind the PEOPLE", y.village(), -1000132);
        due("the tape is empty then", y.count(7), 0);
        due("feed(118) anew", y.feed(118), 1);
        LivedAgain z = new LivedAgain();
        feedAll(z, "v".repeat(60));
        due("feed(0) of the 61st", z.feed(0), FULL);
        due("feed(255) of the 61st", z.feed(255), FULL);
        due("feed(256) of the 61st", z.feed(256), BAD);
        due("feed(-1) of the 61st", z.feed(-1), BAD);

        sentence = "TOKENS: letters a to z, NUMBERS, SIGNS , and ; nothing else, no blanks";
        for (int letter = 0; letter < 256; letter++) {
            dueFirstByte(letter);
            dueSortByte(letter);
            dueNumberByte(letter);
            dueSignByte(letter, "v;f5", "1,1;", 4, ',');
            dueSignByte(letter, "v;f5,1", "1;", 6, ',');
            dueSignByte(letter, "v;f5,1,1", "", 8, ';');
            dueSignByte(letter, "v", "", 1, ';');
        }

        sentence = "The tape, empty then, is read";
        due("village() of an empty tape", new LivedAgain().village(), -1000100);
        LivedAgain e = of("v;");
        due("village() of an empty tape", e.village(), -1000100);
        due("fault()", e.fault(), 1);
        due("the VILLAGE stays", e.lives(0), 0);
    }

    private static boolean isFigure(int letter) {
        return letter >= '0' && letter <= '9';
    }

    private static int readWith(String ahead, int letter, String behind) {
        LivedAgain x = new LivedAgain();
        feedAll(x, ahead);
        x.feed(letter);
        feedAll(x, behind);
        return x.village();
    }

    private static void dueFirstByte(int letter) {
        due("village() of byte " + letter + " ;", readWith("", letter, ";"), letter == 'v' ? 0 : -1000100);
    }

    private static void dueSortByte(int letter) {
        due("village() of v; byte " + letter + " 5,1,1;", readWith("v;", letter, "5,1,1;"),
            "fgswx".indexOf(letter) >= 0 ? 1 : -1000102);
    }

    private static void dueNumberByte(int letter) {
        due("village() of v;f byte " + letter + " ,1,1;", readWith("v;f", letter, ",1,1;"), isFigure(letter) ? 1 : -1000103);
        due("village() of v;f1, byte " + letter + " ,1;", readWith("v;f1,", letter, ",1;"), isFigure(letter) ? 1 : -1000105);
        due("village() of v;f1,1, byte " + letter + " ;", readWith("v;f1,1,", letter, ";"), isFigure(letter) ? 1 : -1000107);
    }

    /** A figure there makes the number ahead a longer one. */
    private static void dueSignByte(int letter, String ahead, String behind, int place, int sign) {
        int got = readWith(ahead, letter, behind);
        if (letter == sign) {
            due("village() of " + ahead + " byte " + letter, got < 0 ? got : 0, 0);
        } else if (!isFigure(letter)) {
            due("village() of " + ahead + " byte " + letter, got, -1000100 - place);
        }
    }

    private static void numbersOfPersons() {
        sentence = "CHANCE 0 to 10; 2 a NUMBER that is not as told";
        for (int chance = 0; chance <= 10; chance++) {
            due("CHANCE", of("v;f" + chance + ",1,1;").person(0, 0), chance);
        }
        for (int chance = 11; chance <= 99; chance++) {
            dueFault("v;f" + chance + ",1,1;", 3, 2);
        }
        due("CHANCE 00", of("v;f00,1,1;").person(0, 0), 0);
        due("CHANCE 01", of("v;f01,1,1;").person(0, 0), 1);
        due("CHANCE 09", of("v;f09,1,1;").person(0, 0), 9);
        dueFault("v;f5,1,1;f11,1,1;", 10, 2);
        dueFault("v;f5,1,1;f5,1,1;f11,1,1;", 17, 2);

        sentence = "GAIN, LOSS 0 to 99";
        int[] told = {0, 1, 9, 10, 11, 98, 99};
        for (int v : told) {
            due("GAIN", of("v;f5," + v + ",1;").person(0, 1), v);
            due("LOSS", of("v;f5,1," + v + ";").person(0, 2), v);
        }

        sentence = "NUMBERS (figures, 2 at most)";
        dueFault("v;f100,1,1;", 3, 1);
        dueFault("v;f000,1,1;", 3, 1);
        dueFault("v;f010,1,1;", 3, 1);
        dueFault("v;f5,100,1;", 5, 1);
        dueFault("v;f5,000,1;", 5, 1);
        dueFault("v;f5,1,100;", 7, 1);
        dueFault("v;f5,1,001;", 7, 1);
        dueFault("v;f5,1,1;f5,1,100;", 14, 1);
        dueFault("v;f" + "0".repeat(57), 3, 1);
        dueFault("v;f5," + "9".repeat(55), 5, 1);
        // 2^32 + 5: as an int it would be 5
        dueFault("v;f4294967301,1,1;", 3, 1);

        sentence = "FAULT 1: the end (how many bytes there are)";
        String whole = "v;f10,20,30;g1,2,3;";
        for (int n = 0; n < whole.length(); n++) {
            if (n != 2 && n != 12) {
                dueEndAt(whole, n);
            }
        }
        duePeople("v;", 0);
        duePeople("v;f10,20,30;", 1);
        duePeople(whole, 2);
    }

    private static void dueEndAt(String whole, int n) {
        LivedAgain x = new LivedAgain();
        due("village() of " + whole.substring(0, n), read(x, whole.substring(0, n)), -1000100 - n);
        due("fault()", x.fault(), 1);
    }

    private static void peopleAndFaults() {
        sentence = "PEOPLE 0 .. 2, 3 at most; 3 a person more than there is room for (its letter)";
        duePeople("v;", 0);
        duePeople("v;f0,0,0;", 1);
        duePeople("v;f0,0,0;x0,0,0;", 2);
        duePeople("v;f0,0,0;x0,0,0;w0,0,0;", 3);
        String three = "v;f0,0,0;x0,0,0;w0,0,0;";
        for (char sort : new char[] {'f', 'g', 's', 'w', 'x'}) {
            dueFault(three + sort, 23, 3);
            dueFault(three + sort + "0,0,0;", 23, 3);
            dueFault(three + sort + "11,0,0;", 23, 3);
        }
        LivedAgain x = of("v;f0,0,0;x0,0,0;");
        edges("kind", 0, 1, BAD, v -> x.kind(v));
        edges("person", 0, 1, BAD, v -> x.person(v, 0));
        edges("ask", 0, 1, BAD, v -> x.ask(v, 0));
        edges("as", 0, 1, BAD, v -> x.as(v, 0));
        edges("again", 0, 1, BAD, v -> x.again(v));
        edges("worth", 0, 1, BAD, v -> x.worth(v, 1, true));
        edges("knows", 0, 1, BAD, v -> x.knows(v, 5, 1, true));
        LivedAgain full = of(THREE);
        edges("kind of three", 0, 2, BAD, v -> full.kind(v));
        edges("person of three", 0, 2, BAD, v -> full.person(v, 0));
        LivedAgain nobody = of("v;");
        due("kind(0) of nobody", nobody.kind(0), BAD);
        due("person(0, 0) of nobody", nobody.person(0, 0), BAD);
        due("ask(0, 0) of nobody", nobody.ask(0, 0), BAD);
        due("as(0, 0) of nobody", nobody.as(0, 0), BAD);
        LivedAgain fewer = of(THREE);
        read(fewer, "v;f1,1,1;");
        edges("kind of fewer than there were", 0, 0, BAD, v -> fewer.kind(v));

        sentence = "FAULTS: of one TOKEN the least";
        dueFault(three + "y", 23, 1);
        dueFault(three + "v", 23, 1);
        dueFault(three + ";", 23, 1);
        dueFault(three + "11", 23, 1);
        dueFault(three + "F", 23, 1);
        dueFault("v;f,11,1;", 3, 1);
        dueFault("v;f1,1,1;11", 9, 1);
        dueFault("v;f111,1,1;", 3, 1);

        sentence = "FAULTS: the first TOKEN that has one (its first byte)";
        dueFault("v;f11,100,y", 3, 2);
        dueFault("v;f100,11,y", 3, 1);
        dueFault("v;f5,1,1;f99,1,1;f1,1,1;f1,1,1;f", 10, 2);
        dueFault("v;f5;1,1;f99,1,1;", 4, 1);
        dueFault("w;f11,1,1;", 0, 1);
        dueFault("v;f5,1,1;f5,1,1;f5,1,1;f11,1,1;", 23, 3);
        dueFault("v;f5,1,1;f5,1,1;f5,1,1 f", 22, 1);

        sentence = "fault(): the number of the latest FAULT; 0 before one";
        LivedAgain f = new LivedAgain();
        due("fault()", f.fault(), 0);
        read(f, "v;");
        due("fault() behind a good text", f.fault(), 0);
        read(f, three + "f");
        due("fault()", f.fault(), 3);
        read(f, "v;");
        due("fault() behind a good text", f.fault(), 3);
        read(f, "v;f11,");
        due("fault()", f.fault(), 2);
        f.feed(256);
        f.live(0);
        due("fault() behind what was refused", f.fault(), 2);
        read(f, "");
        due("fault()", f.fault(), 1);
    }

    private static void newVillage() {
        sentence = "A VILLAGE that is read stands in place of the one before (none at first)";
        LivedAgain none = new LivedAgain();
        for (int what = 0; what < 8; what++) {
            due("count(" + what + ") at first", none.count(what), 0);
        }
        due("live(1)", none.live(1), STATE);
        due("stand()", none.stand(), STATE);
        due("lives(0)", none.lives(0), STATE);
        due("image(0)", none.image(0), STATE);
        due("rests(-1)", none.rests(-1), STATE);
        due("undo()", none.undo(), STATE);
        due("fault()", none.fault(), 0);
        due("status()", none.status(), 0);
        due("trace(0)", none.trace(0), NONE);

        sentence = "DATE 0, DAWN; PURSES 0, all have a RIGHT but strangers, no MEMORY; no ACT can be undone";
        LivedAgain x = atDate("v;f10,10,10;f0,10,10;f5,5,5;", 3);
        x.live(1);
        x.again(1);
        x.live(1);
        x.will(0, 1);
        read(x, "v;x10,10,10;w5,5,5;f5,5,5;");
        int[] counts = {0, 3, 0, 0, 6, 0, 0, 0};
        for (int what = 0; what < 8; what++) {
            due("count(" + what + ")", x.count(what), counts[what]);
        }
        for (int i = 0; i < 3; i++) {
            due("PURSE", x.person(i, 3), 0);
            due("RIGHT", x.person(i, 4), i == 0 ? 0 : 1);
            due("MEMORY", x.person(i, 5), 0);
            due("how it went", x.person(i, 6), NONE);
        }
        due("LIVES", x.lives(0), 0);
        due("LIVES of DATE 1", x.lives(1), NONE);
        due("undo()", x.undo(), STATE);
        x.live(1);
        x.stand();
        due("LIVES of DATE 1 are not those of the VILLAGE before", x.lives(1), 0);
        LivedAgain strangers = of("v;f0,0,0;f0,0,0;f0,0,0;");
        read(strangers, "v;x0,0,0;x0,0,0;x0,0,0;");
        due("RIGHTS of strangers", strangers.count(4), 0);
    }

    // ---- ODDS, days and ACTS

    private static void oddsAndDeeds() {
        sentence = "ODDS: its CHANCE, and as much more as its MEMORY (a saint: twice that), 10 at most";
        String[] sorts = {"f", "g", "s", "x"};
        for (String sort : sorts) {
            for (int chance = 0; chance <= 10; chance++) {
                dueOdds(sort, chance);
            }
        }

        sentence = "It BRINGS GAIN, if it goes well, else 0 less LOSS; a gambler twice that; a saint 0, if not";
        dueBrings("f10,99,98;", 99);
        dueBrings("f0,98,99;", -99);
        dueBrings("g10,99,98;", 198);
        dueBrings("g0,98,99;", -198);
        dueBrings("s10,99,98;", 99);
        dueBrings("s0,98,99;", 0);
        dueBrings("w10,99,98;", 99);
        dueBrings("w0,98,99;", -99);
        dueBrings("x10,99,98;", 99);
        dueBrings("x0,98,99;", -99);
        dueBrings("f10,0,9;", 0);
        dueBrings("f0,9,0;", 0);
    }

    /** Two widows will their RIGHTS to the first one, who has the day AGAIN three times. */
    private static void dueOdds(String sort, int chance) {
        LivedAgain x = of("v;" + sort + chance + ",1,1;w0,0,0;w0,0,0;");
        int rights = x.person(0, 4);
        int memory = 0;
        for (int giver = 0; giver < 3; giver++) {
            due("ODDS by MEMORY " + memory, x.person(0, 7), Math.min(10, chance + memory * (sort.equals("s") ? 2 : 1)));
            x.live(1);
            if (giver > 0) {
                x.will(giver, 0);
            } else if (rights == 0) {
                continue;
            }
            memory++;
            due("again(0) of " + sort, x.again(0), memory);
        }
        due("ODDS by MEMORY " + memory, x.person(0, 7), Math.min(10, chance + memory * (sort.equals("s") ? 2 : 1)));
        due("CHANCE stays", x.person(0, 0), chance);
    }

    private static void dueBrings(String person, int brought) {
        LivedAgain x = inTheEvening("v;" + person, 1);
        x.stand();
        due("PURSE of " + person, x.person(0, 3), brought);
        x.live(1);
        x.stand();
        due("PURSE of " + person + " twice", x.person(0, 3), 2 * brought);
    }

    private static void draws() {
        sentence = "if the rest of that by 10 is less than its ODDS, its deed goes well";
        // SEED 1 draws 7, SEED 10 draws 0, SEED 7 draws 9
        int[][] told = {{1, 7}, {10, 0}, {7, 9}};
        for (int[] t : told) {
            for (int chance = 0; chance <= 10; chance++) {
                due("live(" + t[0] + ") by " + chance, of("v;f" + chance + ",1,1;").live(t[0]), t[1] < chance ? 1 : 0);
            }
        }

        sentence = "for each PERSON, in order, X becomes the rest of (X times 16807) by 2147483647";
        int[] digits = {7, 9, 3};
        for (int i = 0; i < 3; i++) {
            StringBuilder less = new StringBuilder("v;");
            StringBuilder more = new StringBuilder("v;");
            for (int k = 0; k < 3; k++) {
                less.append('w').append(k == i ? digits[i] : 0).append(",0,0;");
                more.append('w').append(k == i ? digits[i] + 1 : 0).append(",0,0;");
            }
            due("live(1) of " + less, of(less.toString()).live(1), 0);
            due("live(1) of " + more, of(more.toString()).live(1), 1 << i);
        }

        sentence = "live by a SEED (1 to 999999)";
        LivedAgain x = of(THREE);
        taken("live", 1, BAD, v -> x.live(v));
        x.undo();
        taken("live", 999999, BAD, v -> x.live(v));
        x.undo();
        refusedBelow("live", 1, BAD, v -> x.live(v));
        refusedAbove("live", 999999, BAD, v -> x.live(v));
        due("live(999999): 4 by 4", of("v;f4,1,1;").live(999999), 0);
        due("live(999999): 4 by 5", of("v;f5,1,1;").live(999999), 1);

        sentence = "live: STATE: it is EVENING";
        due("at DAWN", x.live(1), 4);
        due("in the EVENING", x.live(1), STATE);
        x.stand();
        due("at DAWN", x.live(1), 4);
        x.again(0);
        due("at DAWN of the same DATE", x.live(1), 4);
        due("in the EVENING", x.live(1), STATE);
        x.undo();
        due("at DAWN by undo", x.live(1), 4);
        due("nobody's day", of("v;").live(1), 0);
        due("nobody's EVENING", inTheEvening("v;", 1).live(1), STATE);
    }

    private static void daysAgain() {
        sentence = "again: STATE: it is DAWN, it has no RIGHT, is a widow";
        LivedAgain x = of("v;f5,1,1;w5,1,1;x5,1,1;");
        for (int i = 0; i < 3; i++) {
            due("again(" + i + ") at DAWN", x.again(i), STATE);
        }
        x.live(1);
        due("a widow", x.again(1), STATE);
        due("a stranger without a RIGHT", x.again(2), STATE);
        due("a farmer", x.again(0), 1);
        due("at DAWN anew", x.again(0), STATE);
        x.live(1);
        due("who had it", x.again(0), STATE);
        x.will(1, 2);
        due("a widow without a RIGHT", x.again(1), STATE);
        due("a stranger with a RIGHT that was WILLED", x.again(2), 1);
        x.live(1);
        due("who had it", x.again(2), STATE);

        sentence = "may have the day AGAIN: a widow to whom a RIGHT is WILLED may not";
        LivedAgain w = of("v;w5,1,1;x5,1,1;f5,1,1;");
        w.will(0, 1);
        w.will(2, 0);
        w.live(1);
        due("a widow", w.again(0), STATE);
        due("a stranger", w.again(1), 1);

        sentence = "it has no RIGHT any more, its MEMORY is 1 more, DAWN of the same DATE, how it went is forgotten";
        LivedAgain y = atDate("v;f5,1,1;f5,1,1;f5,1,1;", 2);
        for (int i = 0; i < 3; i++) {
            y.live(10);
            due("again(" + i + ")", y.again(i), 1);
            due("RIGHT", y.person(i, 4), 0);
            due("MEMORY", y.person(i, 5), 1);
            due("DAWN", y.count(5), 0);
            due("DATE", y.count(2), 2);
            due("LIVES", y.count(3), i + 1);
            for (int p = 0; p < 3; p++) {
                due("how it went", y.person(p, 6), NONE);
                due("MEMORY of each", y.person(p, 5), p <= i ? 1 : 0);
            }
        }
        due("RIGHTS", y.count(4), 0);
        y.live(10);
        due("LIVES, 4 at most by three RIGHTS", y.count(3), 4);
        for (int i = 0; i < 3; i++) {
            due("again(" + i + ")", y.again(i), STATE);
        }

        sentence = "AGAIN of DATE 99";
        LivedAgain z = atDate("v;f5,1,1;", 99);
        z.live(1);
        due("again(0)", z.again(0), 1);
        due("live(1)", z.live(1), 0);
        due("LIVES", z.lives(99), 2);
    }

    private static void daysThatStand() {
        sentence = "stand: STATE: it is DAWN";
        LivedAgain x = of("v;f10,10,3;g0,20,9;f5,1,1;");
        due("at DAWN", x.stand(), STATE);
        x.live(1);
        x.again(0);
        due("at DAWN of a day AGAIN", x.stand(), STATE);
        x.live(1);
        due("in the EVENING", x.stand(), 2);
        due("at DAWN of the next DATE", x.stand(), STATE);

        sentence = "each PURSE is more by what its deed BROUGHT (it can be below 0), MEMORIES are 0, the next DATE";
        due("PURSE", x.person(0, 3), 10);
        due("PURSE below 0", x.person(1, 3), -18);
        due("MEMORY", x.person(0, 5), 0);
        due("RIGHT is no more", x.person(0, 4), 0);
        due("how it went", x.person(0, 6), NONE);
        due("DATE", x.count(2), 1);
        due("LIVES", x.count(3), 0);

        sentence = "stand: FULL: it is DATE 99";
        LivedAgain y = atDate("v;", 98);
        y.live(1);
        due("stand() at DATE 98", y.stand(), 1);
        due("DATE", y.count(2), 99);
        due("stand() at DAWN of DATE 99", y.stand(), STATE);
        y.live(1);
        due("stand() at DATE 99", y.stand(), FULL);
        due("stand() anew", y.stand(), FULL);
        due("DATE", y.count(2), 99);
        due("EVENING", y.count(5), 1);
        due("ACTS", y.count(6), 24);

        sentence = "lives: of a DATE that stands; of this one, so far; NONE: it is to come; BAD: not 0 to 99";
        due("lives(98)", y.lives(98), 1);
        due("lives(99)", y.lives(99), 1);
        edges("lives", 0, 99, BAD, v -> y.lives(v));
        LivedAgain z = of("v;f5,1,1;");
        due("lives(0) at first", z.lives(0), 0);
        due("lives(1)", z.lives(1), NONE);
        due("lives(99)", z.lives(99), NONE);
        z.live(1);
        due("lives(0)", z.lives(0), 1);
        z.again(0);
        due("lives(0) at DAWN", z.lives(0), 1);
        z.live(1);
        due("lives(0)", z.lives(0), 2);
        z.stand();
        due("lives(0)", z.lives(0), 2);
        due("lives(1)", z.lives(1), 0);
        due("lives(2)", z.lives(2), NONE);
        edges("lives", 0, 99, BAD, v -> z.lives(v));
    }

    private static void rightsWilled() {
        sentence = "will: BAD: alike, too";
        LivedAgain x = of("v;x5,1,1;f5,1,1;f5,1,1;");
        edges("will's person", 1, 2, BAD, v -> x.will(v == 0 ? -1 : v, 0));
        LivedAgain y = of("v;f5,1,1;x5,1,1;f5,1,1;");
        edges("will's other", 0, 2, BAD, v -> y.will(1, v));
        for (int i = 0; i < 3; i++) {
            due("will(" + i + ", " + i + ")", y.will(i, i), BAD);
        }
        due("will(3, 3)", y.will(3, 3), BAD);
        due("will(-1, -1)", y.will(-1, -1), BAD);
        LivedAgain two = of("v;f5,1,1;x5,1,1;");
        due("will(0, 2) of two", two.will(0, 2), BAD);
        due("will(2, 1) of two", two.will(2, 1), BAD);
        due("will(0, 1) of two", two.will(0, 1), 1);

        sentence = "will: STATE: the one has none, or the other one has one";
        LivedAgain z = of("v;f5,1,1;w5,1,1;x5,1,1;");
        due("both have one", z.will(0, 1), STATE);
        due("both have one", z.will(1, 0), STATE);
        due("the one has none, the other one has one", z.will(2, 0), STATE);
        due("a widow gives, a stranger has", z.will(1, 2), 2);
        due("a stranger gives, a widow has", z.will(2, 1), 2);
        due("a farmer gives", z.will(0, 2), 2);
        LivedAgain none = of("v;x5,1,1;x5,1,1;");
        due("none has one", none.will(0, 1), STATE);

        sentence = "who has a RIGHT gives it (at DAWN, or in the EVENING)";
        LivedAgain e = of("v;f5,1,1;x5,1,1;");
        due("at DAWN", e.will(0, 1), 1);
        due("RIGHTS", e.count(4), 2);
        due("DAWN yet", e.count(5), 0);
        e.live(1);
        due("in the EVENING", e.will(1, 0), 1);
        due("RIGHTS", e.count(4), 1);
        due("EVENING yet", e.count(5), 1);
        due("how it went stays", e.person(0, 6), 0);

        sentence = "will: how many RIGHTS there are";
        LivedAgain three = of("v;f5,1,1;f5,1,1;x5,1,1;");
        due("will(0, 2)", three.will(0, 2), 2);
        three.live(1);
        three.again(1);
        due("will(2, 1)", three.will(2, 1), 1);
        due("MEMORY stays", three.person(1, 5), 1);
    }

    private static void actsUndone() {
        sentence = "undo: how many can be undone yet; STATE: none";
        LivedAgain x = of("v;f5,10,3;x5,10,3;");
        due("none", x.undo(), STATE);
        x.live(1);
        due("one", x.undo(), 0);
        due("none", x.undo(), STATE);
        x.live(1);
        x.will(0, 1);
        x.again(1);
        x.live(1);
        x.stand();
        for (int left = 4; left >= 0; left--) {
            due("count(6)", x.count(6), left + 1);
            due("undo()", x.undo(), left);
        }
        due("none", x.undo(), STATE);
        due("count(6)", x.count(6), 0);

        sentence = "ACTS (24 at most are kept, of more the oldest is forgotten; the latest first)";
        for (int acts = 23; acts <= 26; acts++) {
            LivedAgain y = of("v;");
            for (int a = 0; a < acts; a++) {
                due("an ACT", a % 2 == 0 ? y.live(1) : y.stand(), a % 2);
                due("count(6)", y.count(6), Math.min(24, a + 1));
            }
            for (int left = Math.min(24, acts) - 1; left >= 0; left--) {
                due("undo()", y.undo(), left);
            }
            due("undo() of " + acts, y.undo(), STATE);
            int forgotten = Math.max(0, acts - 24);
            due("DATE of " + acts, y.count(2), forgotten / 2);
            due("EVENING of " + acts, y.count(5), forgotten % 2);
            due("LIVES of " + acts, y.count(3), forgotten % 2);
        }
        LivedAgain many = atDate("v;f10,1,1;", 60);
        for (int left = 23; left >= 0; left--) {
            due("undo()", many.undo(), left);
        }
        due("DATE", many.count(2), 48);
        due("PURSE", many.person(0, 3), 48);
        due("undo()", many.undo(), STATE);

        whatIsUndone();

        sentence = "undo at DATE 99";
        LivedAgain last = atDate("v;", 99);
        last.live(1);
        last.stand();
        due("undo()", last.undo(), 23);
        due("DATE 99, DAWN", last.count(5), 0);
        due("undo()", last.undo(), 22);
        due("DATE 98", last.count(2), 98);
        due("EVENING", last.count(5), 1);
        due("LIVES to come", last.lives(99), NONE);

        sentence = "FORETOLD, IMAGES, ASKS are no ACTS";
        LivedAgain f = with("v;f5,10,3;", 1);
        f.live(1);
        f.lived(0, 1, true);
        f.mean(0, 0, true);
        f.best(0, 0);
        f.rests(-1);
        f.worth(0, 3, true);
        f.gone(0, 20, 1, -1);
        f.image(0);
        f.ask(0, 0);
        f.as(0, 0);
        due("count(6)", f.count(6), 1);
    }

    private static void whatIsUndone() {
        sentence = "undo: each ACT (a day is LIVED; AGAIN; it STANDS; a RIGHT is WILLED) is undone";
        LivedAgain x = of("v;f8,10,3;x8,1,4;w0,0,0;");
        int[][] seen = new int[10][];
        for (int act = 0; act < 10; act++) {
            seen[act] = allOf(x);
            due("ACT " + act, Math.min(0, actOf(x, act)), 0);
        }
        for (int act = 9; act >= 0; act--) {
            due("undo() of ACT " + act, x.undo(), act);
            int[] now = allOf(x);
            for (int i = 0; i < now.length; i++) {
                due("what is seen (" + i + ") behind undo() of ACT " + act, now[i], seen[act][i]);
            }
        }
        due("none", x.undo(), STATE);
    }

    private static int actOf(LivedAgain x, int act) {
        switch (act) {
            case 1: return x.will(0, 1);
            case 2: return x.again(1);
            case 3: return x.live(10);
            case 5: return x.will(2, 0);
            case 6: return x.live(7);
            case 7: return x.again(0);
            case 4: case 9: return x.stand();
            default: return x.live(1);
        }
    }

    private static int[] allOf(LivedAgain x) {
        int[] all = new int[22];
        for (int i = 0; i < 4; i++) {
            all[i] = x.count(i + 2);
        }
        for (int i = 0; i < 15; i++) {
            all[4 + i] = x.person(i / 5, 3 + i % 5);
        }
        for (int i = 0; i < 3; i++) {
            all[19 + i] = x.lives(i);
        }
        return all;
    }

    // ---- FORETOLD

    private static void habits() {
        sentence = "HABITS: as many ITEMS as there are PEOPLE, of a ROW from its beginning on; PLACE";
        String[] texts = {"v;", "v;f5,1,1;", "v;f5,1,1;f5,1,1;", "v;f5,1,1;f5,1,1;f5,1,1;"};
        for (int people = 0; people <= 3; people++) {
            for (int items = 0; items <= 4; items++) {
                LivedAgain x = of(texts[people]);
                x.row(0, 0, items);
                int refusal = items < people ? PLACE : 0;
                due("lived of " + items, Math.min(0, x.lived(0, 1, true)), refusal);
                due("gone of " + items, Math.min(0, x.gone(0, 1, 1, -1)), refusal);
                if (people > 0) {
                    due("mean of " + items, Math.min(0, x.mean(0, 0, true)), refusal);
                    due("best of " + items, Math.min(0, x.best(0, 0)), refusal);
                }
                due("status()", x.status(), refusal == 0 ? 0 : 2);
            }
        }
        LivedAgain none = of("v;");
        due("NULL of nobody", none.lived(0, 1, true), NULL);
        due("NULL of nobody", none.gone(0, 1, 1, -1), NULL);

        sentence = "BAD: an ITEM that is no HABIT (0 nothing, 1 AGAIN if its own deed did not go well, 2 AGAIN)";
        for (int at = 0; at < 3; at++) {
            LivedAgain x = with("v;f5,1,1;f5,1,1;f5,1,1;", 0, 0, 0, 3, -1);
            int place = at;
            edges("lived's ITEM", 0, 2, BAD, v -> setInt(x, place, v) + x.lived(0, 1, true));
            edges("mean's ITEM", 0, 2, BAD, v -> setInt(x, place, v) + x.mean(0, 0, true));
            edges("best's ITEM", 0, 2, BAD, v -> setInt(x, place, v) + x.best(0, 0));
            edges("gone's ITEM", 0, 2, BAD, v -> setInt(x, place, v) + x.gone(0, 1, 1, -1));
        }
        for (int lane = 0; lane < 3; lane++) {
            LivedAgain x = of("v;f5,1,1;");
            lay(x, 0, lane, 258);
            due("258 in LANE " + lane, x.lived(0, 2, true), lane == 0 ? 1 : BAD);
            lay(x, 0, lane, 65537);
            due("65537 in LANE " + lane, x.lived(0, 2, false), lane == 2 ? BAD : 2);
        }

        sentence = "FORETOLD calls: BAD: ROW";
        LivedAgain y = of("v;f5,1,1;");
        for (int row = 0; row < 8; row++) {
            y.row(row, 0, 1);
        }
        edges("lived", 0, 7, BAD, v -> y.lived(v, 1, true));
        edges("mean", 0, 7, BAD, v -> y.mean(v, 0, true));
        edges("best", 0, 7, BAD, v -> y.best(v, 0));
        edges("often", 0, 7, BAD, v -> y.often(v, 0, 0, 0));
        edges("gone", 0, 7, BAD, v -> y.gone(v, 1, 1, -1));

        sentence = "what it does in an EVENING, if it has a RIGHT and is no widow";
        dueLived(with("v;f5,1,1;", 2), 2, 1, 1);
        dueLived(with("v;w5,1,1;", 2), 1, 1, 1);
        dueLived(with("v;x5,1,1;", 2), 1, 1, 1);
        LivedAgain z = with("v;w5,1,1;x5,1,1;", 2, 2);
        z.will(0, 1);
        dueLived(z, 2, 1, 1);

        sentence = "A DATE by HABITS: from DAWN on, RIGHTS as they are now, no MEMORIES (whatever there are now)";
        LivedAgain m = with("v;f5,10,0;f5,10,0;", 0, 1);
        m.live(1);
        m.again(0);
        dueMean(m, 0, 5, 1);
        dueLived(m, 1, 1, 2);
        m.live(1);
        dueMean(m, 0, 5, 1);
        dueLived(m, 1, 1, 2);
        lay(m, 0, 0, 2, 0);
        dueLived(m, 1, 1, 1);
    }

    private static int setInt(LivedAgain x, int i, int v) {
        x.row(0, 2, 5);
        x.set(0, i, v);
        return 0;
    }

    private static void livedSoOften() {
        sentence = "LIVED: just k LIVES (1 to 4)";
        LivedAgain x = with("v;f5,1,1;f5,1,1;f5,1,1;", 2, 2, 2);
        edges("lived's k", 1, 4, BAD, v -> x.lived(0, v, true));
        edges("lived's k, lower", 1, 4, BAD, v -> x.lived(0, v, false));
        dueLived(x, 1, 0, 1);
        dueLived(x, 3, 0, 1);
        dueLived(x, 4, 1, 1);
        dueLived(with("v;f5,1,1;f5,1,1;f5,1,1;", 0, 0, 0), 4, 0, 1);
        dueLived(with("v;"), 1, 1, 1);
        dueLived(with("v;"), 4, 0, 1);

        sentence = "1 AGAIN, if its own deed did not go well";
        dueLived(with("v;f0,1,1;", 1), 2, 1, 1);
        dueLived(with("v;f10,1,1;", 1), 1, 1, 1);
        dueLived(with("v;f0,1,1;f10,1,1;", 0, 1), 1, 1, 1);
        dueLived(with("v;f10,1,1;f0,1,1;", 1, 0), 1, 1, 1);

        sentence = "the first one (by numbers) that would have the day AGAIN has it";
        LivedAgain y = with("v;f9,1,0;f9,1,0;", 1, 1);
        // 81 of 100 well at once; 10 of 100 the first fails: then its odds are 10, the second's 9; 9 of 100 the second
        dueLived(y, 1, 81, 100);
        // 10/100 * 9/10 + 9/100 * 9/10
        dueLived(y, 2, 171, 1000);
        // 10/100 * 1/10 + 9/100 * 1/10
        dueLived(y, 3, 19, 1000);
        dueLived(y, 4, 0, 1);
        // The first one fails for sure and has it; then the second one by 5 of 10, who, ahead of it, would by 75 of 100.
        LivedAgain z = with("v;f0,1,0;f5,1,0;", 1, 1);
        dueLived(z, 2, 1, 2);
        dueLived(z, 3, 1, 2);
        // SEED 1 draws 7, 9: both fail; the first has it: 3 by 8, 8 by 9: both well, the second one's RIGHT is left
        due("RIGHTS left", with("v;f7,1,0;f9,1,0;", 1, 1).gone(0, 1, 1, -2), 2);
    }

    private static void means() {
        sentence = "MEAN of a PERSON: refused as told";
        LivedAgain x = with("v;f5,1,1;f5,1,1;", 0, 0);
        edges("mean's person", 0, 1, BAD, v -> x.mean(0, v, true));
        edges("mean's person, lower", 0, 1, BAD, v -> x.mean(0, v, false));
        LivedAgain nobody = of("v;");
        nobody.row(0, 0, 3);
        due("mean(0, 0) of nobody", nobody.mean(0, 0, true), BAD);
        due("best(0, 0) of nobody", nobody.best(0, 0), BAD);

        sentence = "MEAN: what its deed BRINGS in the mean when a DATE by HABITS STANDS";
        dueMean(with("v;f0,10,4;", 0), 0, -4, 1);
        dueMean(with("v;f10,10,4;", 0), 0, 10, 1);
        dueMean(with("v;f10,10,4;", 2), 0, 10, 1);
        dueMean(with("v;f0,10,0;", 2), 0, 1, 1);
        dueMean(with("v;s0,10,9;", 2), 0, 2, 1);
        dueMean(with("v;s9,10,9;", 2), 0, 10, 1);
        dueMean(with("v;s9,10,9;", 0), 0, 9, 1);
        dueMean(with("v;g5,10,10;", 2), 0, 4, 1);
    }

    private static void bestHabits() {
        sentence = "BEST of a PERSON: the least HABIT by which its MEAN is greatest";
        LivedAgain x = with("v;f5,1,1;f5,1,1;", 0, 0);
        edges("best's person", 0, 1, BAD, v -> x.best(0, v));
        due("all three alike", with("v;f5,0,0;", 2).best(0, 0), 0);
        due("1 and 2 alike", with("v;f0,1,1;", 0).best(0, 0), 1);
        due("0 and 1 alike", with("v;f10,1,1;", 2).best(0, 0), 0);
        due("1 alone", with("v;f5,1,1;", 0).best(0, 0), 1);
        due("a widow", with("v;w0,1,1;", 2).best(0, 0), 0);
        due("a stranger", with("v;x0,1,1;", 2).best(0, 0), 0);
        LivedAgain y = with("v;w0,1,1;x0,1,1;", 0, 0);
        y.will(0, 1);
        due("a stranger with a RIGHT", y.best(0, 1), 1);
        y.live(1);
        y.again(1);
        due("who had it", y.best(0, 1), 0);

        sentence = "BEST: others as told";
        LivedAgain z = with("v;f10,10,0;f0,10,0;", 2, 0);
        due("best(0, 1)", z.best(0, 1), 1);
        due("best(0, 0)", z.best(0, 0), 0);
        due("the ROW stays", z.lived(0, 2, true), 1);
    }

    private static void rests() {
        sentence = "rests: how many (k = -1), the HABIT of PERSON k in the first; BAD";
        LivedAgain three = of(THREE);
        edges("rests of three", -1, 2, BAD, v -> three.rests(v));
        LivedAgain one = of("v;f5,1,1;");
        edges("rests of one", -1, 0, BAD, v -> one.rests(v));
        LivedAgain nobody = of("v;");
        edges("rests of nobody", -1, -1, BAD, v -> nobody.rests(v));
        due("rests(-1) of nobody: the empty row", nobody.rests(-1), 1);

        sentence = "RESTS: rows of HABITS (0 to 2 each) at which nobody's MEAN is greater by another HABIT";
        due("all of nine", of("v;w5,1,1;x5,1,1;").rests(-1), 9);
        due("all of 27", of("v;f5,0,0;w5,1,1;x5,1,1;").rests(-1), 27);
        for (int k = 0; k < 3; k++) {
            due("the first of 27", of("v;f5,0,0;w5,1,1;x5,1,1;").rests(k), 0);
        }
        due("always well: 0, 1, and 2 alike", of("v;f10,1,1;").rests(-1), 3);
        due("1 and 2 alike", of("v;f0,1,1;").rests(-1), 2);
        due("1 alone", of("v;f5,1,1;").rests(-1), 1);
        due("the HABIT", of("v;f5,1,1;").rests(0), 1);
        LivedAgain mixed = of("v;w5,1,1;f0,1,1;f5,1,1;");
        due("rests(-1)", mixed.rests(-1), 6);
        due("rests(0): the least of a widow's", mixed.rests(0), 0);
        due("rests(1): the least of two alike", mixed.rests(1), 1);
        due("rests(2)", mixed.rests(2), 1);
        LivedAgain had = inTheEvening("v;f5,1,1;", 1);
        had.again(0);
        due("none has a RIGHT", had.rests(-1), 3);
        due("the first", had.rests(0), 0);
    }

    private static void worths() {
        sentence = "worth: BAD: n 1 to 3";
        LivedAgain x = of(THREE);
        edges("worth's n", 1, 3, BAD, v -> x.worth(0, v, true));
        edges("worth's n, lower", 1, 3, BAD, v -> x.worth(0, v, false));
        edges("worth's person", 0, 2, BAD, v -> x.worth(v, 1, true));

        sentence = "WORTH: whether it has one now or not; 0 to a widow";
        for (int n = 1; n <= 3; n++) {
            dueWorth("v;w5,10,3;", n, 0, 1);
        }
        dueWorth("v;f5,10,3;", 1, 39, 10);
        dueWorth("v;x5,10,3;", 1, 39, 10);
        dueWorth("v;x5,10,3;", 3, 273, 40);
        LivedAgain had = inTheEvening("v;f5,10,3;", 1);
        had.again(0);
        due("who had it, a MEMORY", had.worth(0, 1, true), 39);

        sentence = "WORTH: AGAIN just where that is more in the mean";
        dueWorth("v;f10,99,99;", 3, 0, 1);
        dueWorth("v;f5,0,0;", 1, 0, 1);
        dueWorth("v;s5,0,99;", 3, 0, 1);
        // never well: AGAIN at once brings a tenth of GAIN and LOSS together more
        dueWorth("v;f0,10,10;", 1, 2, 1);
        dueWorth("v;f0,10,10;", 2, 2, 1);
        dueWorth("v;f0,99,99;", 3, 99, 5);
        dueWorth("v;g0,10,10;", 1, 4, 1);
        dueWorth("v;s0,10,10;", 1, 2, 1);
        // nine of ten: once in ten it fails, then all is well
        dueWorth("v;f9,10,0;", 1, 1, 1);
        dueWorth("v;s9,10,0;", 1, 1, 1);
    }

    private static void knowledge() {
        sentence = "knows by r (0 to 10); its deed went well (1), or not (0)";
        LivedAgain x = of(THREE);
        edges("knows' r", 0, 10, BAD, v -> x.knows(0, v, 1, true));
        edges("knows' well", 0, 1, BAD, v -> x.knows(0, 5, v, true));
        edges("knows' person", 0, 2, BAD, v -> x.knows(v, 5, 1, true));
        edges("knows' r, lower", 0, 10, BAD, v -> x.knows(0, v, 1, false));

        sentence = "KNOWS: NONE, if it could not go so at all";
        String[] sure = {"v;f10,1,1;", "v;g10,1,1;", "v;s10,1,1;", "v;w10,1,1;", "v;x10,1,1;"};
        for (String text : sure) {
            for (int r = 0; r <= 10; r++) {
                due("knows(0, " + r + ", 0, true) of " + text, of(text).knows(0, r, 0, true), NONE);
                due("knows(0, " + r + ", 0, false) of " + text, of(text).knows(0, r, 0, false), NONE);
            }
        }
        due("never well without a MEMORY", of("v;f0,1,1;").knows(0, 0, 1, true), NONE);
        due("never well without a MEMORY", of("v;f0,1,1;").knows(0, 0, 1, false), NONE);
        due("always well with a MEMORY", of("v;f9,1,1;").knows(0, 10, 0, true), NONE);
        due("always well with a MEMORY", of("v;s8,1,1;").knows(0, 10, 0, true), NONE);
        dueKnows("v;f0,1,1;", 1, 1, 1, 1);
        dueKnows("v;f9,1,1;", 9, 0, 0, 1);
        dueKnows("v;f8,1,1;", 10, 0, 1, 1);
        dueKnows("v;s7,1,1;", 10, 0, 1, 1);
        dueKnows("v;f0,1,1;", 0, 0, 0, 1);
        dueKnows("v;f10,1,1;", 5, 1, 1, 2);
        dueKnows("v;f5,1,1;", 1, 1, 2, 17);
        dueKnows("v;s5,1,1;", 1, 1, 7, 52);
        due("whatever MEMORY there is now", knowsWithMemory(), 2);
    }

    private static long knowsWithMemory() {
        LivedAgain x = inTheEvening("v;f5,1,1;", 1);
        x.again(0);
        return x.knows(0, 1, 1, true);
    }

    private static void oftenSo() {
        sentence = "often: n LIVES (0 to 10) of a ROW from i on; BAD: ROW, n, set";
        LivedAgain x = of("v;f5,1,1;f5,1,1;f5,1,1;");
        x.row(0, 0, 12);
        for (int i = 0; i < 12; i++) {
            x.set(0, i, 1);
        }
        edges("often's n", 0, 10, BAD, v -> x.often(0, 0, v, 0));
        edges("often's set of three", 0, 7, BAD, v -> x.often(0, 0, 1, v));
        LivedAgain two = of("v;f5,1,1;f5,1,1;");
        lay(two, 0, 0, 2);
        edges("often's set of two", 0, 3, BAD, v -> two.often(0, 0, 1, v));
        LivedAgain nobody = of("v;");
        lay(nobody, 0, 0, 1, 2);
        edges("often's set of nobody", 0, 0, BAD, v -> nobody.often(0, 0, 1, v));
        due("nobody can have had it", nobody.often(0, 1, 1, 0), 0);
        due("once each", nobody.often(0, 0, 1, 0), 1);
        due("ten of 12", x.often(0, 2, 10, 0), 1);

        sentence = "often: PLACE";
        edges("often's i, n 10", 0, 2, PLACE, v -> x.often(0, v, 10, 0));
        edges("often's i, n 1", 0, 11, PLACE, v -> x.often(0, v, 1, 0));
        edges("often's i, n 0", 0, 12, PLACE, v -> x.often(0, v, 0, 0));
        x.row(1, 0, 0);
        due("none of an empty ROW", x.often(1, 0, 0, 0), 1);
        due("one of an empty ROW", x.often(1, 0, 1, 0), PLACE);
        due("status()", x.status(), 2);
        due("beyond by a sum that wraps", x.often(0, MAX - 5, 10, 0), PLACE);

        sentence = "then BAD: an ITEM not 1 to 4";
        for (int at = 0; at < 3; at++) {
            int place = at;
            edges("often's ITEM", 1, 4, BAD, v -> layLives(x, place, v) + x.often(2, 0, 3, 0));
        }
        layLives(x, 0, 9);
        due("ITEMS ahead of i do not count", x.often(2, 1, 2, 0), 1);
        layLives(x, 2, 9);
        due("ITEMS behind do not count", x.often(2, 0, 2, 0), 1);

        sentence = "OFTEN: in how many ways the PEOPLE who have a RIGHT now can have had days AGAIN just so";
        dueWays(3, 0, 1, 1);
        dueWays(3, 0, 3, 2);
        dueWays(3, 0, 6, 3);
        dueWays(3, 0, 6, 4);
        dueWays(3, 0, 6, 2, 2);
        dueWays(3, 0, 6, 2, 1, 2);
        dueWays(3, 0, 6, 2, 2, 2);
        dueWays(3, 0, 0, 2, 2, 2, 2);
        dueWays(3, 0, 0, 4, 2);
        dueWays(3, 0, 0, 4, 4, 4, 4, 4, 4, 4, 4, 4, 4);
        dueWays(2, 0, 2, 2);
        dueWays(2, 0, 2, 3);
        dueWays(2, 0, 0, 4);
        dueWays(1, 0, 1, 2);
        dueWays(1, 0, 0, 3);
        dueWays(3, 1, 2, 2);
        dueWays(3, 2, 2, 3);
        dueWays(3, 4, 0, 4);
        dueWays(3, 6, 1, 2);
        dueWays(3, 6, 0, 3);
        dueWays(3, 7, 1, 1);
        dueWays(3, 7, 0, 2);

        sentence = "OFTEN: no widows, none of a told set";
        LivedAgain w = of("v;w5,1,1;x5,1,1;f5,1,1;");
        lay(w, 0, 0, 2, 3);
        due("the farmer alone", w.often(0, 0, 1, 0), 1);
        due("not twice", w.often(0, 1, 1, 0), 0);
        due("without the farmer", w.often(0, 0, 1, 4), 0);
        due("without the widow", w.often(0, 0, 1, 1), 1);
        w.will(0, 1);
        due("the stranger, too", w.often(0, 0, 1, 0), 2);
        due("both", w.often(0, 1, 1, 0), 2);
        due("without the stranger", w.often(0, 0, 1, 2), 1);
        w.live(1);
        w.again(2);
        due("who had it has none now", w.often(0, 0, 1, 0), 1);
    }

    private static int layLives(LivedAgain x, int at, int v) {
        lay(x, 2, 2, 1, 1, 1);
        x.set(2, at, v);
        return 0;
    }

    private static void dueWays(int people, int set, int ways, int... lives) {
        LivedAgain x = of("v;" + "f5,1,1;".repeat(people));
        lay(x, 0, 1, lives);
        due("often of " + lives.length + " DATES by " + people + " without " + set, x.often(0, 0, lives.length, set), ways);
    }

    private static void goneThrough() {
        sentence = "gone: n DATES (1 to 20), a SEED (1 to 999999), what -2 to the last PERSON";
        LivedAgain x = with(THREE, 1, 1, 2);
        edges("gone's n", 1, 20, BAD, v -> x.gone(0, v, 77, -1));
        edges("gone's SEED", 1, 999999, BAD, v -> x.gone(0, 1, v, -1));
        edges("gone's what", -2, 2, BAD, v -> x.gone(0, 1, 77, v));
        LivedAgain one = with("v;f5,1,1;", 0);
        edges("gone's what of one", -2, 0, BAD, v -> one.gone(0, 1, 77, v));
        LivedAgain nobody = with("v;");
        edges("gone's what of nobody", -2, -1, BAD, v -> nobody.gone(0, 1, 77, v));
        due("LIVES of nobody", nobody.gone(0, 1, 1, -1), 1);
        due("LIVES of nobody", nobody.gone(0, 20, 1, -1), 20);

        sentence = "GONE from DAWN on (as it is now, with MEMORIES)";
        LivedAgain m = with("v;f8,10,1;", 0);
        m.live(7);
        m.again(0);
        due("7 by 9", m.gone(0, 1, 1, 0), 10);
        // SEED 7 draws 9: by ODDS 9 not well; its next draw is of the next DATE, by 8
        due("9 by 9", m.gone(0, 1, 7, 0), -1);
        LivedAgain s = with("v;s7,10,1;", 0);
        s.live(7);
        s.again(0);
        due("a saint, 7 by 9", s.gone(0, 1, 1, 0), 10);
        due("a saint without a MEMORY, 7 by 7", with("v;s7,10,1;", 0).gone(0, 1, 1, 0), 0);
        // MEMORIES are 0 at the next DATE: 7 by 9, then 9 by 8
        due("two DATES", m.gone(0, 2, 1, 0), 9);

        sentence = "GONE in the EVENING from that on; LIVES of this one from now on";
        LivedAgain e = with("v;f8,10,1;", 0);
        e.live(7);
        due("it STANDS at once", e.gone(0, 1, 1, -1), 0);
        due("PURSE", e.gone(0, 1, 1, 0), -1);
        due("20 DATES", e.gone(0, 20, 1, -1), 19);
        e.set(0, 0, 1);
        due("AGAIN", e.gone(0, 1, 1, -1), 1);
        due("RIGHTS", e.gone(0, 1, 1, -2), 0);
        due("PURSE, 7 by 9", e.gone(0, 1, 1, 0), 10);
        LivedAgain all = with("v;f5,1,1;f5,1,1;f5,1,1;", 2, 2, 2);
        due("LIVES by three RIGHTS", all.gone(0, 1, 1, -1), 4);
        due("20 DATES", all.gone(0, 20, 1, -1), 23);
        all.live(1);
        due("in the EVENING", all.gone(0, 1, 1, -1), 3);
        due("20 DATES", all.gone(0, 20, 1, -1), 22);
        due("RIGHTS", all.gone(0, 1, 1, -2), 0);

        sentence = "GONE: PURSES, RIGHTS left as they are now at first";
        LivedAgain p = with("v;f10,10,1;x0,1,5;", 0, 2);
        p.live(1);
        p.stand();
        due("PURSE", p.gone(0, 1, 1, 0), 20);
        due("PURSE below 0", p.gone(0, 20, 1, 1), -105);
        due("RIGHTS left", p.gone(0, 20, 1, -2), 1);
        p.will(0, 1);
        due("RIGHTS left", p.gone(0, 1, 1, -2), 0);

        sentence = "GONE: nothing changes, DATE 99 refuses nothing";
        LivedAgain last = atDate("v;f10,1,1;", 99);
        last.row(0, 0, 1);
        due("LIVES", last.gone(0, 20, 1, -1), 20);
        due("PURSE", last.gone(0, 20, 1, 0), 119);
        last.live(1);
        due("LIVES", last.gone(0, 20, 1, -1), 19);
        due("DATE", last.count(2), 99);
        due("PURSE now", last.person(0, 3), 99);
    }

    private static void images() {
        sentence = "image, restore: an IMAGE (0, 1)";
        LivedAgain x = of(THREE);
        edges("image", 0, 1, BAD, v -> x.image(v));
        edges("restore", 0, 1, BAD, v -> x.restore(v));

        sentence = "restore: STATE: none was kept";
        LivedAgain y = of(THREE);
        due("restore(0)", y.restore(0), STATE);
        due("restore(1)", y.restore(1), STATE);
        due("image(1)", y.image(1), 1);
        due("restore(0)", y.restore(0), STATE);
        due("restore(1)", y.restore(1), 1);
        LivedAgain none = new LivedAgain();
        due("image(0) without a VILLAGE", none.image(0), STATE);
        due("image(1) without a VILLAGE", none.image(1), STATE);
        due("restore(0) of what was refused", none.restore(0), STATE);

        sentence = "The VILLAGE is as an IMAGE kept it (no ACT can be undone then)";
        LivedAgain z = of("v;f10,10,3;f5,1,1;");
        z.live(1);
        z.again(1);
        z.live(1);
        z.image(0);
        z.stand();
        z.image(1);
        due("restore(1)", z.restore(1), 1);
        due("ACTS", z.count(6), 0);
        due("undo()", z.undo(), STATE);
        z.live(1);
        z.stand();
        due("restore(0)", z.restore(0), 1);
        due("undo()", z.undo(), STATE);
        read(z, "v;");
        due("restore(0) of another VILLAGE", z.restore(0), 1);
        due("PEOPLE", z.count(1), 2);
        due("LIVES", z.count(3), 2);
        due("EVENING", z.count(5), 1);
        due("MEMORY", z.person(1, 5), 1);
        due("how it went", z.person(0, 6), 1);
        due("restore(1)", z.restore(1), 1);
        due("DATE", z.count(2), 1);
        due("LIVES of DATE 0", z.lives(0), 2);
        due("PURSE", z.person(0, 3), 10);
        z.live(1);
        due("an ACT", z.count(6), 1);
        due("undo()", z.undo(), 0);
        due("restore(0) anew", z.restore(0), 1);
        due("DATE", z.count(2), 0);
        due("LIVES of DATE 1", z.lives(1), NONE);

        sentence = "An IMAGE of the VILLAGE alone: ROWS, the tape, THE TRACE, the latest FAULT stay";
        LivedAgain r = of("v;f5,1,1;");
        r.row(0, 0, 2);
        r.ask(0, 1);
        r.image(0);
        read(r, "w");
        r.drop(0);
        r.row(1, 0, 1);
        r.row(2, 0, 1);
        r.feed('v');
        r.ask(0, 0);
        r.restore(0);
        due("ROWS", r.count(0), 2);
        due("the tape", r.count(7), 1);
        dueTrace(r, 11, 10, 21, 20);
        due("fault()", r.fault(), 1);
    }

    // ---- KINDS, ASKS

    private static void kinds() {
        sentence = "as: a KIND (0 .. 5); KIND: it is no such one";
        LivedAgain x = of("v;f5,1,1;x5,1,1;");
        edges("as' KIND", 0, 5, BAD, v -> x.as(0, v));
        String[] sorts = {"f", "g", "s", "w", "x"};
        int[][] are = {{0, 1}, {0, 1, 2}, {0, 1, 3}, {0, 4}, {0, 4, 5}};
        for (int s = 0; s < sorts.length; s++) {
            LivedAgain y = of("v;" + (sorts[s] + "5,1,1;").repeat(3));
            for (int i = 0; i < 3; i++) {
                due("kind(" + i + ") of " + sorts[s], y.kind(i), s + 1);
                for (int kind = 0; kind <= 5; kind++) {
                    boolean is = false;
                    for (int one : are[s]) {
                        is |= one == kind;
                    }
                    due(sorts[s] + " as " + kind, y.as(i, kind), is ? i : KIND);
                    due("status()", y.status(), is ? 0 : 3);
                }
            }
        }
    }

    private static void asks() {
        sentence = "ask: an ASK (0, 1) of a PERSON";
        LivedAgain x = of(THREE);
        edges("ask's what", 0, 1, BAD, v -> x.ask(0, v));
        edges("ask's person", 0, 2, BAD, v -> x.ask(v, 1));

        sentence = "THE TRACE is empty ahead of it; trace: NONE";
        LivedAgain y = of(THREE);
        dueTrace(y);
        due("trace(-1)", y.trace(-1), NONE);
        due("trace(MIN)", y.trace(MIN), NONE);
        due("trace(MAX)", y.trace(MAX), NONE);
        y.ask(1, 0);
        dueTrace(y, 12, 11, 10, 24, 21, 20);
        due("trace(-1)", y.trace(-1), NONE);
        due("trace(MIN)", y.trace(MIN), NONE);
        due("trace(MAX)", y.trace(MAX), NONE);
        y.ask(0, 1);
        dueTrace(y, 21, 20);
        y.ask(2, 1);
        dueTrace(y, 22, 21, 20);
        for (int i = 0; i < 4; i++) {
            y.ask(1, 0);
        }
        dueTrace(y, 12, 11, 10, 24, 21, 20);
        due("ask(3, 0)", y.ask(3, 0), BAD);
        due("ask(0, 2)", y.ask(0, 2), BAD);
        dueTrace(y, 12, 11, 10, 24, 21, 20);

        sentence = "MARK: the number, and MEMORY; SIZE: PURSE";
        LivedAgain z = of("v;w0,0,99;x0,0,99;g0,0,99;");
        z.live(1);
        z.again(2);
        z.live(1);
        z.stand();
        due("widow, SIZE", z.ask(0, 0), -199);
        dueTrace(z, 13, 10);
        due("widow, MARK", z.ask(0, 1), 199);
        dueTrace(z, 23, 20, 13, 10);
        due("stranger, SIZE", z.ask(1, 0), -398);
        dueTrace(z, 14, 13, 10);
        due("stranger, MARK", z.ask(1, 1), 399);
        dueTrace(z, 23, 20, 14, 13, 10);
        due("gambler, SIZE", z.ask(2, 0), 194);
        due("gambler, MARK", z.ask(2, 1), 4);
        LivedAgain g = of("v;g0,0,0;g0,0,0;g0,0,0;");
        for (int i = 0; i < 3; i++) {
            due("gambler " + i + ", MARK", g.ask(i, 1), 2 * i);
            due("gambler " + i + ", SIZE", g.ask(i, 0), -2 * i);
            g.live(1);
            g.again(i);
            due("gambler " + i + " by MEMORY 1, MARK", g.ask(i, 1), 2 * i + 2);
        }
        LivedAgain m = of("v;w0,0,0;s0,0,0;f0,0,0;");
        m.live(1);
        m.again(1);
        m.live(1);
        m.will(0, 1);
        m.again(1);
        due("saint by MEMORY 2, MARK", m.ask(1, 1), -997);
        dueTrace(m, 22, 21, 20);
        due("saint by MEMORY 2, SIZE", m.ask(1, 0), -997);
        dueTrace(m, 11, 10, 22, 21, 20);
    }

    private static void tellings() {
        sentence = "person: 0 CHANCE .. 7 ODDS; 6 NONE at DAWN";
        LivedAgain x = of("v;f5,10,3;");
        edges("person's what", 0, 7, BAD, v -> x.person(0, v));
        due("at DAWN", x.person(0, 6), NONE);
        x.live(1);
        due("in the EVENING, not well", x.person(0, 6), 0);
        x.undo();
        due("at DAWN by undo", x.person(0, 6), NONE);
        x.live(10);
        due("in the EVENING, well", x.person(0, 6), 1);
        x.again(0);
        due("at DAWN of a day AGAIN", x.person(0, 6), NONE);
        x.live(10);
        x.stand();
        due("at DAWN of the next DATE", x.person(0, 6), NONE);

        sentence = "count: 0 ROWS .. 7 bytes on the tape";
        edges("count", 0, 7, BAD, v -> x.count(v));
        LivedAgain none = new LivedAgain();
        edges("count without a VILLAGE", 0, 7, BAD, v -> none.count(v));
        for (int row = 0; row < 8; row++) {
            none.row(row, 0, 40);
        }
        due("all ROWS", none.count(0), 8);
        for (int row = 0; row < 8; row++) {
            none.drop(row);
            due("ROWS", none.count(0), 7 - row);
        }
    }

    private static void statuses() {
        sentence = "status(): the number of its FINDING; 0: it had none, or there was none";
        LivedAgain x = of("v;f5,1,1;");
        due("there was none", x.status(), 0);
        x.as(0, 1);
        due("as() had none", x.status(), 0);
        dueStatus(x, "row", x.row(0, 0, -1), SIZE);
        x.row(0, 0, 2);
        due("row() had none", x.status(), 0);
        dueStatus(x, "set", x.set(1, 0, 0), NULL);
        x.set(0, 0, 1);
        due("set() had none", x.status(), 0);
        dueStatus(x, "set", x.set(0, 2, 0), PLACE);
        x.copy(0, 0, 0, 0, 0);
        due("copy() had none", x.status(), 0);
        x.row(1, 1, 2);
        dueStatus(x, "copy", x.copy(0, 0, 1, 0, 0), STORE);
        x.drop(1);
        due("drop() had none", x.status(), 0);
        dueStatus(x, "as", x.as(0, 2), KIND);
        x.lived(0, 1, true);
        due("lived() had none", x.status(), 0);
        dueStatus(x, "lived", x.lived(1, 1, true), NULL);
        x.mean(0, 0, true);
        due("mean() had none", x.status(), 0);
        dueStatus(x, "mean", x.mean(1, 0, false), NULL);
        x.best(0, 0);
        due("best() had none", x.status(), 0);
        dueStatus(x, "best", x.best(1, 0), NULL);
        x.often(0, 0, 1, 0);
        due("often() had none", x.status(), 0);
        dueStatus(x, "often", x.often(0, 1, 2, 0), PLACE);
        x.gone(0, 1, 1, -1);
        due("gone() had none", x.status(), 0);
        dueStatus(x, "gone", x.gone(1, 1, 1, -1), NULL);
        x.as(0, 0);
        due("as() had none", x.status(), 0);
        dueStatus(x, "drop", x.drop(1), NULL);

        sentence = "status(): calls without a ROW leave it";
        x.feed('v');
        x.feed(';');
        x.live(1);
        x.again(0);
        x.live(1);
        x.stand();
        x.undo();
        x.person(0, 0);
        x.lives(0);
        x.rests(-1);
        x.worth(0, 1, true);
        x.knows(0, 1, 1, true);
        x.image(0);
        x.restore(0);
        x.kind(0);
        x.ask(0, 0);
        x.trace(0);
        x.count(0);
        x.fault();
        x.village();
        due("status()", x.status(), 1);
        due("status() anew", x.status(), 1);
    }

    private static void dueStatus(LivedAgain x, String call, long got, int finding) {
        due(call, got, finding);
        due("status() of " + call, x.status(), -1000010 - finding);
    }

    // ---- any number

    private static final int[] WILD = {MIN, MIN + 1, -1000001, -3, -2, -1, 0, 1, 2, 3, 4, 7, 8, 10, 11, 31, 32, 33,
        39, 40, 41, 60, 64, 99, 100, 255, 256, 999999, 1000000, MAX - 1, MAX};

    private static void wildNumbers() {
        sentence = "No call may ever throw, for any arguments in any state";
        String[] texts = {"", "v;", "v;x0,0,0;", THREE, "v;w10,99,99;g10,99,99;s10,99,99;"};
        for (String text : texts) {
            for (boolean evening : new boolean[] {false, true}) {
                for (int a : WILD) {
                    wildCalls(text, evening, a);
                }
            }
        }
        checks++;
    }

    private static void wildCalls(String text, boolean evening, int a) {
        for (int b : WILD) {
            LivedAgain x = new LivedAgain();
            read(x, text);
            x.row(0, 0, 3);
            x.row(1, 2, 40);
            x.row(2, 1, 0);
            if (evening) {
                x.live(1);
            }
            x.row(a, b, 3);
            x.row(3, a, b);
            x.set(a, b, a);
            x.set(1, a, b);
            x.copy(a, b, 1, a, b);
            x.copy(1, a, 1, b, a);
            x.copy(1, a, a, b, b);
            x.drop(a == 0 ? 5 : a);
            x.feed(a);
            x.lives(a);
            x.person(a, b);
            x.lived(a, b, true);
            x.mean(0, a, b > 0);
            x.mean(a, b, true);
            x.best(a, b);
            x.rests(a);
            x.worth(a, b, true);
            x.knows(a, b, 1, true);
            x.knows(0, a, b, false);
            x.often(1, a, b, 0);
            x.often(a, 0, 1, b);
            x.gone(0, a, b, -1);
            x.gone(a, 1, 1, b);
            x.gone(0, 1, a, b);
            x.kind(a);
            x.as(a, b);
            x.ask(a, b);
            x.trace(a);
            x.count(a);
            x.will(a, b);
            x.again(a);
            x.live(a);
            x.stand();
            x.undo();
            x.image(a);
            x.restore(b);
            x.village();
            x.status();
        }
    }
}
