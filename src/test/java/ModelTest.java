import java.util.NoSuchElementException;
import java.util.Random;

/** Runs of calls by chance, each answer held against the model's. */
public final class ModelTest {
    private static final int NONE = Check.NONE;
    private static final int HIDDEN = Check.HIDDEN;
    private static final int THROWN = -7777777;
    private static final int RUNS = 1500;
    private static final int CALLS = 512;

    private final Random chance;
    private final SpoolHall hall = new SpoolHall();
    private final Model model = new Model();
    private int calls;
    private String told = "";

    private ModelTest(long seed) {
        chance = new Random(seed);
    }

    public static void main(String[] args) {
        Check check = new Check("ModelTest");
        int wrong = 0;
        for (int run = 0; run < RUNS && wrong < 10; run++) {
            wrong += new ModelTest(run).run(run) ? 0 : 1;
        }
        check.due("runs that went astray", wrong, 0);
        check.finish();
    }

    private boolean run(int run) {
        while (calls < CALLS - 30) {
            int kind = chance.nextInt(100);
            boolean isText = calls == 0 || kind < 6 && (calls < 60 || chance.nextInt(20) == 0);
            if (!(isText ? sameText() : sameCall(kind))) {
                System.out.println("run " + run + ", call " + calls + ": " + told);
                return false;
            }
        }
        return true;
    }

    private int below(int n) {
        return chance.nextInt(n);
    }

    private boolean same(String call, int got, int due) {
        calls++;
        told = call + " answered " + got + ", the model " + due;
        return got == due;
    }

    /** A text, mostly right, in up to twelve feeds; then its fault, then it is taken. */
    private boolean sameText() {
        int sort = calls == 0 ? 0 : below(2);
        String text = sort == 0 ? hallText() : scriptText();
        for (int i = below(8) - 5; i > 0; i--) {
            text = spoilt(text);
        }
        text = text.substring(0, Math.min(text.length(), 240));
        model.read = "";
        hall.end(0);
        calls++;
        for (int from = 0; from < text.length(); from += 20) {
            String part = text.substring(from, Math.min(from + 20, text.length()));
            model.read += part;
            if (!same("feed", Check.feed(hall, part), model.read.length())) {
                return false;
            }
            calls++;
        }
        for (int other = 0; other < 2; other++) {
            int due = new ModelTexts(model.read, other).fault;
            if (!same("fault(" + other + ") of '" + model.read + "'", hall.fault(other), due)) {
                return false;
            }
        }
        return same("text(" + sort + ") of '" + text + "'", hall.text(sort), modelText(sort));
    }

    private int modelText(int sort) {
        ModelTexts texts = new ModelTexts(model.read, sort);
        if (texts.fault != NONE || sort == 1 && model.scripts.size() == 4) {
            return NONE;
        }
        model.read = "";
        if (sort == 1) {
            model.scripts.add(texts.steps);
            return model.scripts.size() - 1;
        }
        model.world = texts.world;
        model.past.clear();
        model.image = null;
        return texts.world.tapes.size();
    }

    private String spoilt(String text) {
        int at = below(text.length() + 1);
        String signs = " ;,stfndlwmagikub0123456789xpcru" + (char) 200;
        char sign = signs.charAt(below(signs.length()));
        int from = Math.min(text.length(), at + below(2));
        return text.substring(0, at) + (below(3) == 0 ? "" : sign) + text.substring(from);
    }

    private String blank() {
        return below(12) == 0 ? " " : "";
    }

    private String item(String letter, int low, int high) {
        return below(3) == 0 ? "" : letter + blank() + (low + below(high - low + 1)) + blank();
    }

    private String hallText() {
        int tapes = 1 + below(8);
        StringBuilder text = new StringBuilder("s" + blank() + "n" + Math.max(4, tapes) + item("d", 1, 3)
            + item("l", 4, 16) + item("w", 1, 6) + item("m", 1, 9) + item("a", 1, 5)
            + item("g", 1, 9) + item("i", 1, 60));
        for (int i = 0; i < tapes; i++) {
            text.append(";t").append(item("k", 0, 5)).append(item("u", 0, 12));
        }
        int files = below(25);
        for (int i = 0; i < files; i++) {
            text.append(";f").append(item("t", 0, Math.min(tapes, 7))).append(item("b", 1, 5));
        }
        return text.toString();
    }

    private String scriptText() {
        StringBuilder text = new StringBuilder();
        int steps = 1 + below(16);
        for (int i = 0; i < steps; i++) {
            char letter = "aaaassswdmuclrpx".charAt(below(16));
            text.append(i == 0 ? "" : ";").append(blank()).append(letter).append(blank());
            if (letter == 'a' || letter == 'd') {
                text.append(below(20));
            } else if (letter == 'p') {
                text.append(1 + below(99));
            } else if (letter == 'w' || letter == 'c') {
                text.append(below(6)).append(',').append(below(6));
            } else if ("mur".indexOf(letter) >= 0) {
                text.append(below(6));
            }
        }
        return text.toString();
    }

    private boolean sameCall(int kind) {
        int t = below(10) - 1;
        int f = below(26) - 1;
        if (kind < 22) {
            return same("ask(" + f + ")", hall.ask(f), model.act(0, f, 0, true));
        } else if (kind < 27) {
            return same("serve()", hall.serve(), model.act(1, 0, 0, true));
        } else if (kind < 38) {
            return sameAct(t, f);
        } else if (kind < 40) {
            return sameLaterCall(below(10), t, f);
        } else if (kind < 60) {
            return sameView(kind - 40, t, f);
        }
        return sameTrial(kind % 12, t, f);
    }

    private boolean sameAct(int t, int f) {
        int b = below(11);
        int u = below(9);
        int n = below(10) == 0 ? below(120) - 10 : 1 + below(40);
        switch (below(11)) {
            case 0:
            case 1: return same("write(" + t + ", " + b + ")", hall.write(t, b), model.act(2, t, b, true));
            case 2: return same("drop(" + f + ")", hall.drop(f), model.act(3, f, 0, true));
            case 3: return same("mount(" + t + ")", hall.mount(t), model.act(4, t, 0, true));
            case 4: return same("unmount(" + t + ")", hall.unmount(t), model.act(5, t, 0, true));
            case 5:
            case 6: return same("copy(" + t + ", " + u + ")", hall.copy(t, u), model.act(6, t, u, true));
            case 7: return below(4) > 0 || same("lose()", hall.lose(), model.act(7, 0, 0, true));
            case 8: return same("scan(" + t + ")", hall.scan(t), model.act(8, t, 0, true));
            case 9: return same("pause(" + n + ")", hall.pause(n), model.act(9, n, 0, true));
            default: return same("rescue()", hall.rescue(), model.act(10, 0, 0, true));
        }
    }

    private boolean sameLaterCall(int sort, int t, int f) {
        int n = below(46) - 2;
        long seed = chance.nextLong();
        Model.World w = model.world;
        if (sort < 4 && below(10) < 9) {
            return same("perform(" + sort + ")", hall.perform(sort), model.run(sort, 0, true));
        } else if (sort < 4) {
            return same("years(" + n + ", " + seed + ")", hall.years(n, seed), model.years(n, seed));
        } else if (sort < 7) {
            int due = NONE;
            if (!model.past.isEmpty()) {
                model.world = model.past.removeLast();
                due = model.past.size();
            }
            return same("undo()", hall.undo(), due);
        } else if (sort == 7 || model.image == null) {
            model.image = w == null ? null : w.copied();
            return same("image()", hall.image(), w == null ? NONE : w.time);
        } else if (below(3) == 0) {
            model.world = model.image.copied();
            model.past.clear();
            return same("back()", hall.back(), model.world.time);
        }
        return same("status(" + t + ")", hall.status(t), t < 0 || t > 3 ? NONE : model.status[t]);
    }

    private int hallTape(int t, int what) {
        try {
            return hall.tape(t, what);
        } catch (NoSuchElementException e) {
            return THROWN;
        }
    }

    private boolean sameView(int sort, int t, int f) {
        Model.World w = model.world;
        int what = below(13) - 1;
        int m = below(8) - 1;
        switch (sort) {
            case 0: return same("rule(" + what + ")", hall.rule(what), w == null || what < 0 || what > 8 ? NONE
                : what == 8 ? w.size() : w.rules[what]);
            case 1: return same("drive(" + t + ")", hall.drive(t), w == null || t < 0 ? NONE : w.inDrive(t));
            case 2: return same("labelled(" + t + ")", hall.labelled(t), labelled(t));
            case 3: return same("way(" + what + ", " + m + ")", hall.way(what, m), way(what, m));
            case 4: return sameSeek(below(100) - 2, below(100) - 2);
            case 5: return samePath(f, below(10) - 1, below(4) - 1);
            case 6: return same("count(" + m + ")", hall.count(m), count(m));
            case 7: return same("status(" + m + ")", hall.status(m), m < 0 || m > 3 ? NONE : model.status[m]);
            case 8:
            case 9: return sameLog(below(8) == 0 ? below(63) - 1 : below(4), below(4));
            case 10:
            case 11:
            case 12: return same("file(" + f + ", " + m + ")", hall.file(f, m), file(f, m));
            case 13:
            case 14:
            case 15: return same("most(" + what + ")", hall.most(what), most(what));
            default: return same("tape(" + t + ", " + what + ")", hallTape(t, what), tape(t, what));
        }
    }

    private int labelled(int label) {
        for (int t = 0; model.world != null && t < model.world.tapes.size(); t++) {
            if (model.world.tapes.get(t).label == label) {
                return t;
            }
        }
        return NONE;
    }

    private int way(int a, int b) {
        Model.World w = model.world;
        boolean such = w != null && Math.min(a, b) >= 0 && Math.max(a, b) < w.rules[0] + w.rules[1];
        return such ? w.rules[5] * Math.abs(a - b) : NONE;
    }

    private boolean sameSeek(int a, int b) {
        Model.World w = model.world;
        boolean such = w != null && Math.min(a, b) >= 0 && Math.max(a, b) < w.size();
        return same("seek(" + a + ", " + b + ")", hall.seek(a, b), such ? w.seek(a, b) : NONE);
    }

    private boolean samePath(int f, int i, int what) {
        Model.World w = model.world;
        boolean such = w != null && w.isThere(f) && i >= 0 && i < w.files.get(f).blocks && what >= 0 && what < 2;
        int block = such ? w.files.get(f).start + i : 0;
        int due = !such ? NONE : what == 0 ? w.spot(block) : block / w.rules[2];
        return same("path(" + f + ", " + i + ", " + what + ")", hall.path(f, i, what), due);
    }

    private int count(int what) {
        Model.World w = model.world;
        switch (what) {
            case 0: return w == null ? 0 : w.tapes.size();
            case 1: return model.scripts.size();
            case 2: return model.read.length();
            case 3: return w == null ? 0 : Math.min(60, w.log.size());
            case 4: return model.past.size();
            case 5: return w == null ? 0 : w.files.size();
            default: return HIDDEN;
        }
    }

    private boolean sameLog(int i, int what) {
        Model.World w = model.world;
        boolean such = w != null && i >= 0 && i < Math.min(60, w.log.size()) && what < 3;
        return same("log(" + i + ", " + what + ")", hall.log(i, what),
            such ? w.log.get(w.log.size() - 1 - i)[what] : HIDDEN);
    }

    private int file(int f, int what) {
        Model.World w = model.world;
        if (w == null || f < 0 || f >= w.files.size()) {
            return HIDDEN;
        }
        Model.Item item = w.files.get(f);
        int[] told = {item.tape, item.start, item.blocks, item.known ? 1 : 0, item.turn};
        boolean hidden = what < 0 || what > 4 || item.tape == NONE && (what == 1 || what == 2);
        return hidden ? HIDDEN : told[what];
    }

    private int tape(int t, int what) {
        Model.World w = model.world;
        if (w == null || !w.isTape(t) || what < 0 || what > 10) {
            return THROWN;
        }
        Model.Tape tape = w.tapes.get(t);
        boolean in = tape.drive != NONE;
        int[] told = {tape.label, in ? w.rules[0] + tape.drive : t, in ? tape.head : NONE, tape.end, tape.wear,
            tape.mended, w.on(t).size(), w.blocksOn(t), tape.end - w.blocksOn(t), w.askedOn(t).size(),
            in ? w.time - tape.used : NONE};
        return told[what];
    }

    private int most(int what) {
        Model.World w = model.world;
        if (w == null || what < 0 || what > 10) {
            return HIDDEN;
        }
        int in = 0;
        int empty = 0;
        int mended = 0;
        Model.Tape room = w.tapes.get(0);
        Model.Tape old = null;
        for (Model.Tape t : w.tapes) {
            in += t.drive != NONE ? 1 << t.number : 0;
            empty += t.end == 0 ? 1 << t.number : 0;
            mended += t.mended;
            room = t.end < room.end ? t : room;
            old = t.drive != NONE && (old == null || t.used < old.used) ? t : old;
        }
        int there = w.files.size() - w.on(NONE).size();
        int[] told = {w.time, w.arm, in, w.weak(), there, w.known(), w.asked(), mended, room.number,
            old == null ? NONE : old.number, empty};
        return told[what];
    }

    private boolean sameTrial(int sort, int t, int f) {
        Model.World w = model.world;
        boolean such = w != null && w.isTape(t);
        int m = below(5) - 1;
        int n = below(104) - 2;
        int c = below(1010) - 5;
        switch (sort) {
            case 0: return same("takes(" + t + ", " + m + ")", hall.takes(t, m),
                such && m >= 0 && m < 3 ? w.takes(w.tapes.get(t), w.order(w.tapes.get(t), m)) : NONE);
            case 1: return such && w.askedOn(t).size() > 6 || same("least(" + t + ")", hall.least(t),
                such ? w.least(w.headOf(w.tapes.get(t)), w.askedOn(t)) : NONE);
            case 2: return same("all(" + m + ")", hall.all(m), model.all(m));
            case 3: return same("served(" + t + ")", hall.served(t), model.served(t));
            case 4: return same("soon(" + f + ")", hall.soon(f), model.soon(f));
            case 5: return same("target(" + t + ")", hall.target(t), such ? w.target(t) : NONE);
            case 6: return same("cheap(" + (t + 1) + ")", hall.cheap(t + 1), model.cheap(t + 1));
            case 7: return same("idle(" + n + ")", hall.idle(n), w == null || n < 1 || n > 99 ? NONE : w.idle(n));
            case 8: return same("shares(" + t + ", " + c + ")", hall.shares(t, c), shares(t, c));
            case 9: return same("step(" + m + ", " + t + ")", hall.step(m, t, below(4)), HIDDEN) || sameStep(m, t);
            case 10: return same("run(" + m + ", 0)", hall.run(m, 0), model.run(m, 0, false));
            default: return same("run(" + m + ", 1)", hall.run(m, 1), model.run(m, 1, false));
        }
    }

    private boolean sameStep(int script, int i) {
        for (int what = 0; what < 3; what++) {
            boolean such = script >= 0 && script < model.scripts.size() && i >= 0
                && i < model.scripts.get(script).size();
            int due = such ? model.scripts.get(script).get(i)[what] : HIDDEN;
            if (!same("step(" + script + ", " + i + ", " + what + ")", hall.step(script, i, what), due)) {
                return false;
            }
        }
        return true;
    }

    private int shares(int t, int c) {
        Model.World w = model.world;
        if (w == null || !w.isTape(t) || c < 0 || c > 999) {
            return NONE;
        }
        int sum = 0;
        for (Model.Item f : w.files) {
            sum += f.tape == NONE ? 0 : f.blocks;
        }
        return sum == 0 ? 0 : c * w.blocksOn(t) / sum;
    }
}
