import java.util.NoSuchElementException;
import java.util.function.IntSupplier;

/** Compares answers with those that are due, and counts. */
final class Judge {
    private int right;
    private int wrong;
    private String words = "";

    /** The document's words that the answers from here on are held against: told with those that are wrong. */
    void sentence(String ofTheDocument) {
        words = "\"" + ofTheDocument + "\": ";
    }

    private void tell(String answer) {
        wrong++;
        System.out.println(words + answer);
    }

    void due(String call, long answer, long due) {
        if (answer == due) {
            right++;
        } else {
            tell(call + " answered " + answer + ", due is " + due);
        }
    }

    void due(String call, boolean answer, boolean due) {
        due(call, answer ? 1 : 0, due ? 1 : 0);
    }

    void same(String call, String is, String due) {
        if (is.equals(due)) {
            right++;
        } else {
            tell(call + ": there is\n  " + is + "\n  where there was\n  " + due);
        }
    }

    void noSuch(String call, IntSupplier run) {
        try {
            int answer = run.getAsInt();
            tell(call + " answered " + answer + ", due is NoSuchElementException");
        } catch (NoSuchElementException expected) {
            right++;
        }
    }

    /** The whole ROW, and that nothing stands behind it. */
    void row(String call, OneChairShort x, int... due) {
        due(call + ": numbers of the ROW", x.count(7), due.length);
        for (int i = 0; i < due.length && i < x.count(7); i++) {
            due(call + ": row(" + i + ")", x.row(i), due[i]);
        }
        noSuch(call + ": row(" + due.length + ")", () -> x.row(due.length));
    }

    void finish(String name) {
        System.out.println(name + ": " + right + " answers right, " + wrong + " wrong");
        if (wrong > 0 || right == 0) {
            System.exit(1);
        }
    }
}
