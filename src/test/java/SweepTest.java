import java.math.BigInteger;

/**
 * Every SORT with every CHANCE and some GAINS and LOSSES, one alone that may have a RIGHT: what is FORETOLD of it
 * must be what plain formulas say. PERSON 0 is a widow, whose RIGHT is WILLED to strangers; all is asked of PERSON 1.
 */
public final class SweepTest {
    private static final int NONE = -1000000;
    private static final int[] AMOUNTS = {0, 1, 7, 50, 99};

    private static int checks = 0;
    private static int wrong = 0;

    public static void main(String[] args) {
        for (char sort : "fgswx".toCharArray()) {
            for (int chance = 0; chance <= 10; chance++) {
                for (int gain : AMOUNTS) {
                    for (int loss : AMOUNTS) {
                        new One(sort, chance, gain, loss).check();
                    }
                }
            }
        }
        System.out.println("sweep: " + checks + " checks, " + wrong + " wrong");
        if (wrong != 0) {
            System.exit(1);
        }
    }

    private static final class One {
        final String text;
        final LivedAgain x = new LivedAgain();
        final boolean may;
        /** Of 10: how many ways go well without a MEMORY, and with one. */
        final int plain, knowing;
        final long good, ill;

        One(char sort, int chance, int gain, int loss) {
            text = "v;w5,3,3;" + sort + chance + "," + gain + "," + loss + ";";
            may = sort != 'w';
            plain = chance;
            knowing = Math.min(10, chance + (sort == 's' ? 2 : 1));
            good = sort == 'g' ? 2L * gain : gain;
            ill = sort == 's' ? 0 : sort == 'g' ? -2L * loss : -loss;
            for (char c : text.toCharArray()) {
                x.feed(c);
            }
            due("village()", x.village(), 2);
            if (sort == 'x') {
                due("will(0, 1)", x.will(0, 1), 1);
            }
            x.row(0, 0, 2);
        }

        void check() {
            long[] means = new long[3];
            for (int habit = 0; habit < 3; habit++) {
                x.set(0, 1, habit);
                means[habit] = meanHundredths(may ? habit : 0);
                int[] tenths = {may && habit > 0 ? habit == 1 ? plain : 0 : 10, 0};
                tenths[1] = 10 - tenths[0];
                for (int k = 1; k <= 4; k++) {
                    long upper = k <= 2 ? tenths[k - 1] : 0;
                    dueFraction("lived " + k + " by " + habit, x.lived(0, k, true), x.lived(0, k, false), upper, 10);
                }
                dueFraction("mean by " + habit, x.mean(0, 1, true), x.mean(0, 1, false), means[habit], 100);
            }
            checkBest(means);
            for (int n = 1; n <= 3; n++) {
                dueFraction("worth in " + n, x.worth(1, n, true), x.worth(1, n, false), may ? bestOfAllRules(n) : 0, 10000);
            }
            checkKnows();
        }

        long meanTenths(int odds) {
            return odds * good + (10 - odds) * ill;
        }

        long meanHundredths(int habit) {
            if (habit == 1) {
                return 10 * plain * good + (10 - plain) * meanTenths(knowing);
            }
            return 10 * meanTenths(habit == 2 ? knowing : plain);
        }

        void checkBest(long[] means) {
            long most = Math.max(means[0], Math.max(means[1], means[2]));
            int best = means[0] == most ? 0 : means[1] == most ? 1 : 2;
            int alike = 0;
            for (long mean : means) {
                alike += mean == most ? 1 : 0;
            }
            for (int habit = 0; habit < 3; habit++) {
                x.set(0, 1, habit);
                due("best(0, 1)", x.best(0, 1), best);
            }
            due("rests(-1)", x.rests(-1), 3 * alike);
            due("rests(0)", x.rests(0), 0);
            due("rests(1)", x.rests(1), best);
        }

        /** A rule says for each DATE, and for well or not, whether the day is had AGAIN: the best of all rules, less none. */
        long bestOfAllRules(int dates) {
            long none = dates * 1000 * meanTenths(plain);
            long most = none;
            for (int rule = 0; rule < 1 << 2 * dates; rule++) {
                long value = 0;
                for (int left = 0; left < dates; left++) {
                    long again = 1000 * (meanTenths(knowing) + left * meanTenths(plain));
                    long ifGood = (rule >> 2 * left & 1) == 1 ? again : 10000 * good + value;
                    long ifIll = (rule >> 2 * left & 2) == 2 ? again : 10000 * ill + value;
                    value = (plain * ifGood + (10 - plain) * ifIll) / 10;
                }
                most = Math.max(most, value);
            }
            return most - none;
        }

        void checkKnows() {
            for (int r = 0; r <= 10; r++) {
                for (int well = 0; well < 2; well++) {
                    int with = r * (well == 1 ? knowing : 10 - knowing);
                    int all = with + (10 - r) * (well == 1 ? plain : 10 - plain);
                    String name = "knows by " + r + ", " + well;
                    long upper = x.knows(1, r, well, true);
                    long lower = x.knows(1, r, well, false);
                    if (all == 0) {
                        due(name, upper, NONE);
                        due(name, lower, NONE);
                    } else {
                        dueFraction(name, upper, lower, with, all);
                    }
                }
            }
        }

        void dueFraction(String call, long gotUpper, long gotLower, long upper, long lower) {
            long common = BigInteger.valueOf(upper).gcd(BigInteger.valueOf(lower)).longValue();
            due(call + ", upper", gotUpper, upper / common);
            due(call + ", lower", gotLower, lower / common);
        }

        void due(String call, long got, long want) {
            checks++;
            if (got != want) {
                wrong++;
                System.out.println(text + " " + call + " answered " + got + ", due is " + want);
            }
        }
    }
}
