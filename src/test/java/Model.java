import java.util.ArrayDeque;
import java.util.ArrayList;
import java.util.Comparator;
import java.util.Deque;
import java.util.List;

/**
 * The document once more, written for plainness alone: every act makes a whole new world, so that
 * undoing, images and trials are worlds kept. ModelTest holds SpoolHall against it.
 */
final class Model {
    static final int NONE = -1;
    static final int HIDDEN = -1000000;

    static final class Tape {
        int number;
        int label;
        int wear;
        int end;
        int mended;
        int drive = NONE;
        int head;
        int used;
    }

    static final class Item {
        int number;
        int tape;
        int start;
        int blocks;
        boolean known = true;
        int turn;
    }

    static final class World {
        int[] rules = {8, 1, 8, 4, 3, 1, 20, 30};
        List<Tape> tapes = new ArrayList<>();
        List<Item> files = new ArrayList<>();
        List<int[]> log = new ArrayList<>();
        int time;
        int arm;
        int turns;
        int mounts;

        World copied() {
            World w = new World();
            w.rules = rules;
            for (Tape t : tapes) {
                Tape u = new Tape();
                u.number = t.number;
                u.label = t.label;
                u.wear = t.wear;
                u.end = t.end;
                u.mended = t.mended;
                u.drive = t.drive;
                u.head = t.head;
                u.used = t.used;
                w.tapes.add(u);
            }
            for (Item f : files) {
                Item g = new Item();
                g.number = f.number;
                g.tape = f.tape;
                g.start = f.start;
                g.blocks = f.blocks;
                g.known = f.known;
                g.turn = f.turn;
                w.files.add(g);
            }
            w.log.addAll(log);
            w.time = time;
            w.arm = arm;
            w.turns = turns;
            w.mounts = mounts;
            return w;
        }

        boolean isTape(int t) {
            return t >= 0 && t < tapes.size();
        }

        boolean isThere(int f) {
            return f >= 0 && f < files.size() && files.get(f).tape != NONE;
        }

        int size() {
            return rules[2] * rules[3];
        }

        int spot(int block) {
            int rest = block % rules[2];
            return block / rules[2] % 2 == 1 ? rules[2] - 1 - rest : rest;
        }

        int seek(int a, int b) {
            return Math.abs(spot(a) - spot(b)) + (a / rules[2] != b / rules[2] ? 2 : 0);
        }

        void go(int place) {
            time += rules[5] * Math.abs(arm - place);
            arm = place;
        }

        void unmount(Tape t) {
            time += seek(t.head, 0) + rules[4];
            go(rules[0] + t.drive);
            go(t.number);
            t.drive = NONE;
        }

        void mount(Tape t) {
            if (t.drive != NONE) {
                return;
            }
            List<Tape> in = new ArrayList<>(tapes);
            in.removeIf(u -> u.drive == NONE);
            if (in.size() == rules[1]) {
                in.sort(Comparator.comparingInt(u -> u.used));
                unmount(in.remove(0));
            }
            int d = 0;
            while (inDrive(d) != NONE) {
                d++;
            }
            go(t.number);
            go(rules[0] + d);
            time += rules[4];
            t.drive = d;
            t.head = 0;
            t.wear = Math.min(99, t.wear + 1);
            t.used = time;
            mounts++;
        }

        int inDrive(int d) {
            for (Tape t : tapes) {
                if (t.drive == d) {
                    return t.number;
                }
            }
            return NONE;
        }

        void pass(Tape t, int first, int blocks, boolean reading) {
            time += seek(t.head, first) + blocks;
            t.head = first + blocks - 1;
            t.used = time;
            if (reading && t.wear > rules[6]) {
                t.mended += blocks;
            }
        }

        List<Item> on(int t) {
            List<Item> there = new ArrayList<>();
            for (Item f : files) {
                if (f.tape == t) {
                    there.add(f);
                }
            }
            there.sort(Comparator.comparingInt(f -> f.start));
            return there;
        }

        List<Item> askedOn(int t) {
            List<Item> there = on(t);
            there.removeIf(f -> f.turn == 0);
            return there;
        }

        int asked() {
            int n = 0;
            for (Item f : files) {
                n += f.turn > 0 ? 1 : 0;
            }
            return n;
        }

        int known() {
            int n = 0;
            for (Item f : files) {
                n += f.known ? 1 : 0;
            }
            return n;
        }

        int blocksOn(int t) {
            int n = 0;
            for (Item f : on(t)) {
                n += f.blocks;
            }
            return n;
        }

        Item add(int t, int blocks) {
            Item f = new Item();
            f.number = files.size();
            f.tape = t;
            f.start = tapes.get(t).end;
            f.blocks = blocks;
            tapes.get(t).end += blocks;
            files.add(f);
            return f;
        }

        int headOf(Tape t) {
            return t.drive == NONE ? 0 : t.head;
        }

        List<Item> order(Tape t, int order) {
            List<Item> rest = askedOn(t.number);
            if (order == 2) {
                rest.sort(Comparator.comparingInt(f -> f.turn));
            }
            if (order != 1) {
                return rest;
            }
            List<Item> row = new ArrayList<>();
            int at = headOf(t);
            while (!rest.isEmpty()) {
                Item near = rest.get(0);
                for (Item f : rest) {
                    if (seek(at, f.start) < seek(at, near.start)) {
                        near = f;
                    }
                }
                rest.remove(near);
                row.add(near);
                at = near.start + near.blocks - 1;
            }
            return row;
        }

        int takes(Tape t, List<Item> row) {
            int at = headOf(t);
            int sum = 0;
            for (Item f : row) {
                sum += seek(at, f.start) + f.blocks;
                at = f.start + f.blocks - 1;
            }
            return sum;
        }

        int least(int at, List<Item> rest) {
            int best = rest.isEmpty() ? 0 : Integer.MAX_VALUE;
            for (Item f : rest) {
                List<Item> others = new ArrayList<>(rest);
                others.remove(f);
                best = Math.min(best, seek(at, f.start) + f.blocks + least(f.start + f.blocks - 1, others));
            }
            return best;
        }

        int serve() {
            Tape best = null;
            for (int pass = 0; pass < 2 && best == null; pass++) {
                for (Tape t : tapes) {
                    int n = askedOn(t.number).size();
                    if (n > 0 && (pass == 1 || t.drive != NONE)
                        && (best == null || n > askedOn(best.number).size())) {
                        best = t;
                    }
                }
            }
            mount(best);
            List<Item> row = order(best, 0);
            for (int o = 1; o < 3; o++) {
                if (takes(best, order(best, o)) < takes(best, row)) {
                    row = order(best, o);
                }
            }
            for (Item f : row) {
                pass(best, f.start, f.blocks, true);
                f.turn = 0;
            }
            return best.number;
        }

        int target(int t) {
            Tape best = null;
            for (Tape u : tapes) {
                if (u.end == 0 && u.number != t && (best == null || u.wear < best.wear)) {
                    best = u;
                }
            }
            return best == null || on(t).isEmpty() ? NONE : best.number;
        }

        int weak() {
            int bits = 0;
            for (Tape t : tapes) {
                if (t.wear > rules[6] && !on(t.number).isEmpty()) {
                    bits |= 1 << t.number;
                }
            }
            return bits;
        }

        int idle(int n) {
            int bits = 0;
            for (Tape t : tapes) {
                if (t.drive != NONE && time + n - t.used > rules[7]) {
                    bits |= 1 << t.number;
                }
            }
            return bits;
        }

        int copy(int a, int b) {
            Tape one = tapes.get(a);
            Tape other = tapes.get(b);
            List<Item> row = on(a);
            mount(one);
            for (Item f : row) {
                pass(one, f.start, f.blocks, true);
            }
            mount(other);
            for (Item f : row) {
                pass(other, other.end, f.blocks, false);
                f.tape = b;
                f.start = other.end;
                f.known = true;
                other.end += f.blocks;
            }
            one.end = 0;
            one.mended = 0;
            return row.size();
        }

        /** The answer, or -10 less the reason if it is refused (the world is spoilt then). */
        int act(int sort, int a, int b) {
            int from = time;
            int answer = change(sort, a, b);
            if (answer >= 0) {
                int number = sort == 7 ? NONE : sort == 1 || sort == 10 ? answer : a;
                log.add(new int[] {sort, number, time - from});
            }
            return answer;
        }

        private int change(int sort, int a, int b) {
            boolean onTape = sort == 2 || sort == 4 || sort == 5 || sort == 6 || sort == 8;
            if (onTape && !isTape(a) || sort == 6 && !isTape(b) || (sort == 0 || sort == 3) && !isThere(a)) {
                return -10;
            }
            if (sort == 2 && (b < 1 || b > 9) || sort == 9 && (a < 1 || a > 99)) {
                return -11;
            }
            int n = 0;
            if (sort == 0) {
                Item f = files.get(a);
                if (!f.known || f.turn > 0) {
                    return -12;
                }
                if (asked() == 12) {
                    return -13;
                }
                f.turn = ++turns;
                return turns;
            } else if (sort == 1) {
                return asked() == 0 ? -12 : serve();
            } else if (sort == 2) {
                if (files.size() == 24 || tapes.get(a).end + b > size()) {
                    return -13;
                }
                mount(tapes.get(a));
                pass(tapes.get(a), tapes.get(a).end, b, false);
                return add(a, b).number;
            } else if (sort == 3) {
                files.get(a).tape = NONE;
                files.get(a).known = false;
                files.get(a).turn = 0;
                return files.get(a).blocks;
            } else if (sort == 4) {
                if (tapes.get(a).drive != NONE) {
                    return -12;
                }
                mount(tapes.get(a));
                return tapes.get(a).drive;
            } else if (sort == 5) {
                int d = tapes.get(a).drive;
                if (d == NONE) {
                    return -12;
                }
                unmount(tapes.get(a));
                return d;
            } else if (sort == 6) {
                return a == b || tapes.get(b).end > 0 || on(a).isEmpty() ? -12 : copy(a, b);
            } else if (sort == 7) {
                n = known();
                for (Item f : files) {
                    f.known = false;
                    f.turn = 0;
                }
                return n == 0 ? -12 : n;
            } else if (sort == 8) {
                mount(tapes.get(a));
                if (tapes.get(a).end > 0) {
                    pass(tapes.get(a), 0, tapes.get(a).end, true);
                }
                for (Item f : on(a)) {
                    n += f.known ? 0 : 1;
                    f.known = true;
                }
                return n;
            } else if (sort == 9) {
                int bits = idle(a);
                time += a;
                for (Tape t : tapes) {
                    if ((bits >> t.number) % 2 == 1) {
                        unmount(t);
                        n++;
                    }
                }
                return n;
            }
            int weak = weak();
            for (Tape t : tapes) {
                if ((weak >> t.number) % 2 == 1 && target(t.number) != NONE) {
                    copy(t.number, target(t.number));
                    n++;
                }
            }
            return n == 0 ? -12 : n;
        }
    }

    String read = "";
    List<List<int[]>> scripts = new ArrayList<>();
    World world;
    Deque<World> past = new ArrayDeque<>();
    World image;
    int[] status = new int[4];

    int act(int sort, int a, int b, boolean counted) {
        World next = world == null ? null : world.copied();
        int answer = next == null ? -10 : next.act(sort, a, b);
        if (answer < 0) {
            if (counted) {
                status[-10 - answer]++;
            }
            return NONE;
        }
        past.addLast(world);
        if (past.size() > 40) {
            past.removeFirst();
        }
        world = next;
        return answer;
    }

    int years(int n, long seed) {
        if (world == null || n < 1 || n > 40) {
            return NONE;
        }
        long[] x = {seed};
        for (int i = 0; i < n; i++) {
            int sort = draw(x, 8);
            int tapes = world.tapes.size();
            if (sort <= 2) {
                act(0, draw(x, 24), 0, false);
            } else if (sort <= 4) {
                act(1, 0, 0, false);
            } else if (sort == 5) {
                int t = draw(x, tapes);
                act(2, t, 1 + draw(x, 9), false);
            } else if (sort == 6) {
                act(3, draw(x, 24), 0, false);
            } else {
                int t = draw(x, tapes);
                act(6, t, world.target(t), false);
            }
        }
        return world.time;
    }

    private static int draw(long[] x, int j) {
        x[0] = x[0] * 6364136223846793005L + 1442695040888963407L;
        return (int) ((x[0] >>> 33) % j);
    }

    int all(int what) {
        if (world == null || what < 0 || what > 2) {
            return NONE;
        }
        World w = world.copied();
        int n = 0;
        while (w.asked() > 0) {
            w.serve();
            n++;
        }
        return what == 0 ? w.time - world.time : what == 1 ? w.mounts - world.mounts : n;
    }

    int served(int i) {
        if (world == null || i < 0) {
            return NONE;
        }
        World w = world.copied();
        for (int n = 0; w.asked() > 0; n++) {
            int t = w.serve();
            if (n == i) {
                return t;
            }
        }
        return NONE;
    }

    int soon(int file) {
        if (world == null || !world.isThere(file) || world.files.get(file).turn == 0) {
            return NONE;
        }
        World w = world.copied();
        int n = 0;
        while (w.files.get(file).turn != 0) {
            w.serve();
            n++;
        }
        return n;
    }

    int cheap(int blocks) {
        int best = NONE;
        int least = 0;
        for (int t = 0; world != null && t < world.tapes.size(); t++) {
            World w = world.copied();
            if (w.act(2, t, blocks) >= 0 && (best == NONE || w.time < least)) {
                best = t;
                least = w.time;
            }
        }
        return best;
    }

    int run(int script, int what, boolean done) {
        if (script < 0 || script >= scripts.size() || world == null || what < 0 || what > 1) {
            return done ? NONE : HIDDEN;
        }
        World w = world.copied();
        int n = 0;
        for (int[] step : scripts.get(script)) {
            World next = w.copied();
            if (next.act(step[0], step[1], step[2]) < 0) {
                break;
            }
            if (done) {
                act(step[0], step[1], step[2], false);
            }
            w = next;
            n++;
        }
        return done ? n : what == 1 ? w.time : n == scripts.get(script).size() ? NONE : n;
    }
}
