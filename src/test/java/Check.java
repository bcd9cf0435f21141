import java.util.NoSuchElementException;
import java.util.function.IntUnaryOperator;

/** Counts the answers that are not the ones due, and feeds texts to halls. */
final class Check {
    static final int NONE = SpoolHall.NONE;
    static final int HIDDEN = SpoolHall.HIDDEN;

    private final String test;
    private String remark = "";
    private int wrong;

    Check(String test) {
        this.test = test;
    }

    /** What the answers that follow are due for. */
    void under(String promise) {
        remark = promise.isEmpty() ? "" : promise + ": ";
    }

    void due(String call, long got, long want) {
        if (got != want) {
            wrong++;
            System.out.println(test + ": " + remark + call + " answered " + got + ", due is " + want);
        }
    }

    void due(String call, boolean got, boolean want) {
        due(call, got ? 1 : 0, want ? 1 : 0);
    }

    /** What is told of 0, 1 .. must be the answers due, in this order. */
    void rows(String call, IntUnaryOperator told, int... due) {
        for (int i = 0; i < due.length; i++) {
            due(call + " of " + i, told.applyAsInt(i), due[i]);
        }
    }

    void dueThrow(SpoolHall x, int tape, int what) {
        boolean thrown = false;
        try {
            x.tape(tape, what);
        } catch (NoSuchElementException e) {
            thrown = true;
        }
        due("tape(" + tape + ", " + what + ") throws", thrown, true);
    }

    void finish() {
        System.out.println(wrong == 0 ? test + ": all answers are as due" : test + ": " + wrong + " wrong");
        if (wrong != 0) {
            System.exit(1);
        }
    }

    /** Feeds a text behind what is read already: what the last feed answered. */
    static int feed(SpoolHall x, String text) {
        int answer = x.count(2);
        for (int from = 0; from < text.length(); from += 20) {
            int[] five = new int[5];
            for (int i = from; i < Math.min(from + 20, text.length()); i++) {
                five[(i - from) / 4] |= text.charAt(i) << 24 - 8 * ((i - from) % 4);
            }
            answer = x.feed(five[0], five[1], five[2], five[3], five[4]);
        }
        return answer;
    }

    static SpoolHall hall(String text) {
        SpoolHall x = new SpoolHall();
        tell(x, text, 0);
        return x;
    }

    static int tell(SpoolHall x, String text, int sort) {
        x.end(0);
        feed(x, text);
        int answer = x.text(sort);
        if (answer == NONE) {
            throw new IllegalStateException("a test's own text is faulty: " + text);
        }
        return answer;
    }

    static int faultOf(String text, int sort) {
        SpoolHall x = new SpoolHall();
        feed(x, text);
        return x.fault(sort);
    }
}
