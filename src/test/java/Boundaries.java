import java.util.ArrayList;
import java.util.List;
import java.util.function.Supplier;
import java.util.function.ToIntFunction;

/**
 * What the tests of boundary cases have in common: shops, and the question whether a call leaves all as it was.
 *
 * <p>Each sentence of the document that names a boundary case has a test of its own in one of them: right at the
 * boundary, and right behind it. No object is asked more than 512 times.
 */
abstract class Boundaries {
    static final int NONE = -1;
    static final int BAD = -2;
    static final int FULL = -3;
    static final int ROUND = -4;
    static final int NO_WAY = -5;
    static final int MAX = Integer.MAX_VALUE;
    static final int MIN = Integer.MIN_VALUE;
    private static int wrong = 0;

    /** Said by each test at its end. */
    static void finish() {
        System.out.println(wrong == 0 ? "all boundaries hold" : wrong + " answers are wrong");
        if (wrong != 0) {
            System.exit(1);
        }
    }

    static void due(String what, int got, int want) {
        if (got != want) {
            wrong++;
            System.out.println(what + " answered " + got + ", due is " + want);
        }
    }

    static int[] row(int... machinesAndDurations) {
        return machinesAndDurations;
    }

    /** Jobs as rows of machine, duration, machine, duration ..; told one job behind the other. */
    static JobShop shop(int[]... jobs) {
        JobShop x = new JobShop();
        for (int[] job : jobs) {
            int j = x.job();
            for (int k = 0; k < job.length; k += 2) {
                x.operation(j, job[k], job[k + 1]);
            }
        }
        return x;
    }

    /** Four operations: 0 and 3 on machine 0, 1 and 2 on machine 1. LENGTH and LEAST are 9, OPTIMA 1. */
    static JobShop crossing() {
        return shop(row(0, 3, 1, 2), row(1, 4, 0, 5));
    }

    /** The crossing with an arc from 0 to 3, a draft, and no plan. */
    static JobShop open() {
        JobShop x = crossing();
        x.before(0, 3);
        x.draft(1, 7);
        x.draft(3, 1000);
        return x;
    }

    /** The same with a plan. */
    static JobShop busy() {
        JobShop x = open();
        x.solve();
        return x;
    }

    /** Twelve operations of four jobs on machines 0 to 2, operation i of job i / 3 on machine i % 3. */
    static JobShop twelve(int duration) {
        int[] job = row(0, duration, 1, duration, 2, duration);
        return shop(job, job, job, job);
    }

    /** Twelve operations with two arcs, a draft, and a plan. */
    static JobShop busyTwelve() {
        JobShop x = twelve(2);
        x.before(0, 3);
        x.before(11, 8);
        x.draft(0, 1);
        x.draft(11, 1000);
        x.solve();
        return x;
    }

    /** All twelve on one path by numbers, each of 50. */
    static JobShop longest() {
        int[] forth = row(0, 50, 1, 50, 2, 50);
        int[] back = row(2, 50, 1, 50, 0, 50);
        JobShop x = shop(forth, back, forth, back);
        x.before(2, 3);
        x.before(5, 6);
        x.before(8, 9);
        return x;
    }

    /** One machine and four jobs, operation i of job i. */
    static JobShop queue(int a, int b, int c, int d) {
        return shop(row(0, a), row(0, b), row(0, c), row(0, d));
    }

    static void drafts(JobShop x, int... starts) {
        for (int i = 0; i < starts.length; i++) {
            x.draft(i, starts[i]);
        }
    }

    /** All that can be asked of a shop of so many operations, adopt() and draft() too. */
    static List<ToIntFunction<JobShop>> questions(int size) {
        List<ToIntFunction<JobShop>> all = new ArrayList<>();
        all.add(JobShop::length);
        all.add(JobShop::optima);
        all.add(JobShop::check);
        all.add(JobShop::adopt);
        for (int k = 0; k < 6; k++) {
            int what = k;
            all.add(x -> x.count(what));
            all.add(x -> x.load(what));
            all.add(x -> x.at(what, 0));
        }
        for (int k = 0; k < size; k++) {
            int i = k;
            all.add(x -> x.draft(i, 0));
            for (int what = 0; what < 7; what++) {
                int asked = what;
                all.add(x -> x.told(i, asked));
            }
            for (int b = 0; b < size; b++) {
                int other = b;
                all.add(x -> x.arc(i, other));
            }
        }
        return all;
    }

    /** Each question is put to two fresh shops, so that none can hide what another one spoils. */
    static void same(String what, Supplier<JobShop> got, Supplier<JobShop> want) {
        List<ToIntFunction<JobShop>> all = questions(want.get().count(1));
        for (int k = 0; k < all.size(); k++) {
            due(what + ": question " + k, all.get(k).applyAsInt(got.get()), all.get(k).applyAsInt(want.get()));
        }
    }

    /** A call with its answer, and that all is as it was behind it. */
    static void leaves(String what, Supplier<JobShop> shop, ToIntFunction<JobShop> call, int want) {
        due(what, call.applyAsInt(shop.get()), want);
        same(what, behind(shop, call), shop);
    }

    static Supplier<JobShop> behind(Supplier<JobShop> shop, ToIntFunction<JobShop> call) {
        return () -> {
            JobShop x = shop.get();
            call.applyAsInt(x);
            return x;
        };
    }

    static void hasPlan(String what, JobShop x, int least, int optima) {
        due(what + ": LEAST", x.count(5), least);
        due(what + ": OPTIMA", x.optima(), optima);
        due(what + ": START", x.told(0, 6) < 0 ? NONE : 0, 0);
    }

    static void hasNoPlan(String what, JobShop x) {
        due(what + ": LEAST", x.count(5), NONE);
        due(what + ": OPTIMA", x.optima(), NONE);
        due(what + ": START", x.told(0, 6), NONE);
        for (int machine = 0; machine < 4; machine++) {
            due(what + ": at " + machine, x.at(machine, 0), NONE);
        }
        due(what + ": adopt", x.adopt(), NONE);
    }
}
