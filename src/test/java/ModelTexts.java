import java.util.ArrayList;
import java.util.List;

/** Faults and texts once more: by signs without blanks, each with the place it had. */
final class ModelTexts {
    private static final String[] LETTERS = {"ndlwmagi", "ku", "tb"};
    private static final int[][] LOWS = {{4, 1, 4, 1, 1, 1, 1, 1}, {0, 0}, {0, 1}};
    private static final int[][] HIGHS = {{10, 3, 16, 6, 9, 5, 99, 99}, {99, 99}, {7, 9}};
    private static final int[][] DEFAULTS = {{8, 1, 8, 4, 3, 1, 20, 30}, {0, 0}, {0, 1}};

    int fault = Model.NONE;
    final Model.World world = new Model.World();
    final List<int[]> steps = new ArrayList<>();
    private final List<Integer> places = new ArrayList<>();
    private final String signs;
    private final int length;
    private int at;

    ModelTexts(String text, int sort) {
        StringBuilder kept = new StringBuilder();
        for (int i = 0; i < text.length(); i++) {
            if (text.charAt(i) != ' ') {
                kept.append(text.charAt(i));
                places.add(i);
            }
        }
        signs = kept.toString();
        length = text.length();
        places.add(length);
        boolean fine = sort == 0 ? hall() : script();
        if (!fine) {
            fault = places.get(at);
        }
    }

    private char sign() {
        return at < signs.length() ? signs.charAt(at) : 0;
    }

    private boolean hall() {
        List<int[]> told = new ArrayList<>();
        boolean ruled = false;
        do {
            int clause = sign() == 0 ? -1 : "stf".indexOf(sign());
            boolean tooMany = clause == 0 && ruled || clause == 1 && world.tapes.size() == 8
                || clause == 2 && told.size() == 24;
            if (clause < 0 || tooMany) {
                return false;
            }
            at++;
            int[] values = DEFAULTS[clause].clone();
            if (!items(clause, values)) {
                return false;
            }
            if (clause == 0) {
                ruled = true;
                world.rules = values;
            } else if (clause == 1) {
                Model.Tape t = new Model.Tape();
                t.number = world.tapes.size();
                t.label = values[0];
                t.wear = values[1];
                world.tapes.add(t);
            } else {
                told.add(values);
            }
            at++;
        } while (at <= signs.length());
        at = signs.length();
        if (world.tapes.isEmpty() || world.tapes.size() > world.rules[0]) {
            return false;
        }
        for (int[] f : told) {
            if (world.isTape(f[0]) && world.tapes.get(f[0]).end + f[1] <= world.size()) {
                world.add(f[0], f[1]);
            }
        }
        return true;
    }

    /** Leaves the place at the ; behind the items, or at the end. */
    private boolean items(int clause, int[] values) {
        String left = LETTERS[clause];
        while (sign() != ';' && at < signs.length()) {
            if (left.indexOf(sign()) < 0) {
                return false;
            }
            int item = LETTERS[clause].indexOf(sign());
            left = left.replace("" + sign(), "");
            at++;
            int n = number();
            if (n < 0) {
                return false;
            }
            if (n < LOWS[clause][item] || n > HIGHS[clause][item]) {
                at--;
                return false;
            }
            values[item] = n;
        }
        return true;
    }

    private boolean isDigit() {
        return sign() >= '0' && sign() <= '9';
    }

    private boolean follows() {
        return isDigit() && places.get(at) == places.get(at - 1) + 1;
    }

    private int number() {
        if (!isDigit()) {
            return -1;
        }
        int n = sign() - '0';
        at++;
        if (follows()) {
            n = 10 * n + sign() - '0';
            at++;
            if (follows()) {
                return -1;
            }
        }
        return n;
    }

    private int digit() {
        if (!isDigit()) {
            return -1;
        }
        at++;
        return signs.charAt(at - 1) - '0';
    }

    private boolean script() {
        while (true) {
            int act = sign() == 0 ? -1 : "aswdmuclrpx".indexOf(sign());
            if (act < 0) {
                return false;
            }
            boolean number = "adp".indexOf(sign()) >= 0;
            boolean pair = "wc".indexOf(sign()) >= 0;
            boolean digit = pair || "mur".indexOf(sign()) >= 0;
            at++;
            int[] step = {act, number ? number() : digit ? digit() : Model.NONE, Model.NONE};
            if ((number || digit) && step[1] < 0) {
                return false;
            }
            if (pair) {
                if (sign() != ',') {
                    return false;
                }
                at++;
                step[2] = digit();
                if (step[2] < 0) {
                    return false;
                }
            }
            steps.add(step);
            if (at == signs.length()) {
                return true;
            }
            if (sign() != ';' || steps.size() == 16) {
                return false;
            }
            at++;
        }
    }
}
