import java.util.NoSuchElementException;
import java.util.function.IntSupplier;

/** Compares answers with those that are due, and counts. */
final class Judge {
    private int right;
    private int wrong;

    void due(String call, long answer, long due) {
        if (answer == due) {
            right++;
        } else {
            wrong++;
            System.out.println(call + " answered " + answer + ", due is " + due);
        }
    }

    void due(String call, boolean answer, boolean due) {
        due(call, answer ? 1 : 0, due ? 1 : 0);
    }

    void noSuch(String call, IntSupplier run) {
        try {
            int answer = run.getAsInt();
            wrong++;
            System.out.println(call + " answered " + answer + ", due is NoSuchElementException");
        } catch (NoSuchElementException expected) {
            right++;
        }
    }

    /** The whole ROW, and that nothing stands behind it. */
    void row(String call, OneChairShort x, int... due) {
        due(call + ": numbers of the ROW", x.count(7), due.length);
        for (int i = 0; i < due.length && i < x.count(7); i++) {
            due(call + ": row(" + i + ")", x.row(i), due[i]);
        }
        noSuch(call + ": row(" + due.length + ")", () -> x.row(due.length));
    }

    void finish(String name) {
        System.out.println(name + ": " + right + " answers right, " + wrong + " wrong");
        if (wrong > 0 || right == 0) {
            System.exit(1);
        }
    }
}
