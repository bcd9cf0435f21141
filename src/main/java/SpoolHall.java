import java.util.NoSuchElementException;

/** A hall of tapes; shared/DOC.md says, promise by promise, what each call answers. */
public final class SpoolHall {
    public static final int NONE = -1;
    public static final int HIDDEN = -1000000;

    private static final int MOST_BYTES = 240;
    private static final int MOST_TAPES = 8;
    private static final int MOST_FILES = 24;
    private static final int MOST_ASKED = 12;
    private static final int MOST_BLOCKS = 96;
    private static final int MOST_FILE_BLOCKS = 9;
    private static final int MOST_WEAR = 99;
    private static final int MOST_PAUSE = 99;
    private static final int MOST_SHARE = 999;
    private static final int MOST_SCRIPTS = 4;
    private static final int MOST_STEPS = 16;
    private static final int MOST_UNDONE = 40;
    private static final int MOST_LOG = 60;
    private static final int MOST_YEARS = 40;
    private static final int ORDERS = 3;

    /** Rules, numbered as rule() tells them. */
    private static final int SLOTS = 0;
    private static final int DRIVES = 1;
    private static final int LENGTH = 2;
    private static final int WRAPS = 3;
    private static final int MOUNT = 4;
    private static final int ARM = 5;
    private static final int WORN = 6;
    private static final int IDLE = 7;
    private static final int RULES = 8;

    /** Acts, numbered as both the log and the steps of scripts tell them. */
    private static final int ASKED = 0;
    private static final int SERVED = 1;
    private static final int WRITTEN = 2;
    private static final int DROPPED = 3;
    private static final int MOUNTED = 4;
    private static final int UNMOUNTED = 5;
    private static final int COPIED = 6;
    private static final int LOST = 7;
    private static final int READ_THROUGH = 8;
    private static final int PAUSED = 9;
    private static final int RESCUED = 10;

    /** Why an act is refused, numbered as status() tells them. */
    private static final int NO_SUCH = 0;
    private static final int OUT_OF_BOUNDS = 1;
    private static final int CANNOT = 2;
    private static final int TOO_MUCH = 3;
    private static final int REASONS = 4;

    private static final int HALL_TEXT = 0;
    private static final int SCRIPT_TEXT = 1;
    private static final int NO_SUCH_SORT = -2;

    private static final int RULES_CLAUSE = 0;
    private static final int TAPE_CLAUSE = 1;
    private static final String CLAUSE_LETTERS = "stf";

    /** Items of all clauses in one row, so that one table bounds them; no letter stands in it twice. */
    private static final String ITEM_LETTERS = "ndlwmagikutb";
    private static final int LABEL_ITEM = 8;
    private static final int WEAR_ITEM = 9;
    private static final int TAPE_ITEM = 10;
    private static final int BLOCKS_ITEM = 11;
    private static final int ITEMS = 12;
    private static final int[] ITEM_LOWS = {4, 1, 4, 1, 1, 1, 1, 1, 0, 0, 0, 1};
    private static final int[] ITEM_HIGHS = {10, 3, 16, 6, 9, 5, 99, 99, 99, 99, 7, 9};
    private static final int[] ITEM_DEFAULTS = {8, 1, 8, 4, 3, 1, 20, 30, 0, 0, 0, 1};
    /** Where the items of each clause begin, and behind the last one where they all end. */
    private static final int[] CLAUSE_ITEMS = {0, 8, 10, 12};

    private static final String STEP_LETTERS = "aswdmuclrpx";
    private static final int BARE = 0;
    private static final int NUMBER = 1;
    private static final int DIGIT = 2;
    private static final int PAIR = 3;
    private static final int[] STEP_FORMS =
        {NUMBER, BARE, PAIR, NUMBER, DIGIT, DIGIT, PAIR, BARE, DIGIT, NUMBER, BARE};

    private static final long DRAW_FACTOR = 6364136223846793005L;
    private static final long DRAW_ADDEND = 1442695040888963407L;

    private final Bytes bytes;
    private final Reader reader;
    private final Plan plan;
    private final Plan planDraft;
    private final Script[] scripts;
    private final Script scriptDraft;
    private int scriptCount;
    private final Orders orders;
    private final Stage now;
    private final Stage trial;
    private final int[] trialRow;
    private final int[] trialTapes;
    private int trialServings;
    private final Past past;
    private final Log log;
    private final int[] imageRow;
    private final Log imageLog;
    private boolean hasImage;
    private final int[] statuses;
    private long draws;

    public SpoolHall() {
        bytes = new Bytes();
        reader = new Reader(bytes);
        plan = new Plan();
        planDraft = new Plan();
        scripts = new Script[MOST_SCRIPTS];
        for (int i = 0; i < MOST_SCRIPTS; i++) {
            scripts[i] = new Script();
        }
        scriptDraft = new Script();
        orders = new Orders(plan);
        now = new Stage(plan, orders);
        trial = new Stage(plan, orders);
        trialRow = new int[Stage.CELLS];
        trialTapes = new int[MOST_TAPES];
        past = new Past();
        log = new Log();
        imageRow = new int[Stage.CELLS];
        imageLog = new Log();
        statuses = new int[REASONS];
    }

    public int feed(int a, int b, int c, int d, int e) {
        int more = Bytes.signsIn(a) + Bytes.signsIn(b) + Bytes.signsIn(c) + Bytes.signsIn(d) + Bytes.signsIn(e);
        if (bytes.length + more > MOST_BYTES) {
            return NONE;
        }
        bytes.add(a);
        bytes.add(b);
        bytes.add(c);
        bytes.add(d);
        bytes.add(e);
        return bytes.length;
    }

    public boolean end(int n) {
        if (n < 0 || n > bytes.length) {
            return false;
        }
        bytes.length = n;
        return true;
    }

    public int fault(int sort) {
        if (sort == HALL_TEXT) {
            return reader.readHall(planDraft);
        }
        if (sort == SCRIPT_TEXT) {
            return reader.readScript(scriptDraft);
        }
        return NO_SUCH_SORT;
    }

    public int text(int sort) {
        if (sort == HALL_TEXT && reader.readHall(planDraft) == NONE) {
            return openHall();
        }
        if (sort == SCRIPT_TEXT && scriptCount < MOST_SCRIPTS && reader.readScript(scriptDraft) == NONE) {
            return keepScript();
        }
        return NONE;
    }

    private int openHall() {
        plan.become(planDraft);
        now.begin();
        past.clear();
        log.clear();
        hasImage = false;
        bytes.length = 0;
        return plan.tapes;
    }

    private int keepScript() {
        scripts[scriptCount].become(scriptDraft);
        scriptCount++;
        bytes.length = 0;
        return scriptCount - 1;
    }

    public int rule(int what) {
        if (!plan.isTold() || what < 0 || what > RULES) {
            return NONE;
        }
        return what == RULES ? plan.tapeBlocks : plan.rules[what];
    }

    public int tape(int tape, int what) throws NoSuchElementException {
        if (!plan.isTape(tape) || what < 0 || what > 10) {
            throw new NoSuchElementException("no such tape, or nothing such of it");
        }
        boolean inDrive = now.drive[tape] != NONE;
        switch (what) {
            case 0: return plan.labels[tape];
            case 1: return now.placeOf(tape);
            case 2: return inDrive ? now.head[tape] : NONE;
            case 3: return now.end[tape];
            case 4: return now.wear[tape];
            case 5: return now.mended[tape];
            case 6: return now.filesOn(tape);
            case 7: return now.blocksOn(tape);
            case 8: return now.end[tape] - now.blocksOn(tape);
            case 9: return now.askedOn(tape);
            default: return inDrive ? now.time - now.used[tape] : NONE;
        }
    }

    public int file(int file, int what) {
        if (!now.isFile(file)) {
            return HIDDEN;
        }
        boolean gone = now.home[file] == NONE;
        switch (what) {
            case 0: return now.home[file];
            case 1: return gone ? HIDDEN : now.start[file];
            case 2: return gone ? HIDDEN : now.blocks[file];
            case 3: return now.known[file];
            case 4: return now.turn[file];
            default: return HIDDEN;
        }
    }

    public int drive(int drive) {
        return drive < 0 ? NONE : now.tapeIn(drive);
    }

    public int labelled(int label) {
        for (int tape = 0; tape < plan.tapes; tape++) {
            if (plan.labels[tape] == label) {
                return tape;
            }
        }
        return NONE;
    }

    public int way(int place, int other) {
        return plan.isPlace(place) && plan.isPlace(other) ? plan.armTime(place, other) : NONE;
    }

    public int seek(int block, int other) {
        return plan.isBlock(block) && plan.isBlock(other) ? plan.seekTime(block, other) : NONE;
    }

    public int path(int file, int i, int what) {
        if (!now.isThere(file) || i < 0 || i >= now.blocks[file] || what < 0 || what > 1) {
            return NONE;
        }
        int block = now.start[file] + i;
        if (!plan.isBlock(block)) {
            return NONE;
        }
        return what == 0 ? plan.spots[block] : plan.wraps[block];
    }

    public int ask(int file) {
        return attempt(ASKED, file, NONE, true);
    }

    public int serve() {
        return attempt(SERVED, NONE, NONE, true);
    }

    public int write(int tape, int blocks) {
        return attempt(WRITTEN, tape, blocks, true);
    }

    public int drop(int file) {
        return attempt(DROPPED, file, NONE, true);
    }

    public int mount(int tape) {
        return attempt(MOUNTED, tape, NONE, true);
    }

    public int unmount(int tape) {
        return attempt(UNMOUNTED, tape, NONE, true);
    }

    public int copy(int tape, int other) {
        return attempt(COPIED, tape, other, true);
    }

    public int lose() {
        return attempt(LOST, NONE, NONE, true);
    }

    public int scan(int tape) {
        return attempt(READ_THROUGH, tape, NONE, true);
    }

    public int pause(int n) {
        return attempt(PAUSED, n, NONE, true);
    }

    public int rescue() {
        return attempt(RESCUED, NONE, NONE, true);
    }

    /** Does an act, or refuses it; every act that is done answers 0 or more. */
    private int attempt(int act, int a, int b, boolean counted) {
        int reason = now.refusal(act, a, b);
        if (reason != NONE) {
            if (counted) {
                statuses[reason]++;
            }
            return NONE;
        }
        past.keep(now);
        int from = now.time;
        int answer = now.carryOut(act, a, b);
        log.add(act, numberToLog(act, a, answer), now.time - from);
        return answer;
    }

    private static int numberToLog(int act, int a, int answer) {
        return act == SERVED || act == RESCUED ? answer : a;
    }

    public int years(int n, long seed) {
        if (!plan.isTold() || n < 1 || n > MOST_YEARS) {
            return NONE;
        }
        draws = seed;
        for (int i = 0; i < n; i++) {
            switch (drawBelow(8)) {
                case 3:
                case 4:
                    attempt(SERVED, NONE, NONE, false);
                    break;
                case 5:
                    int written = drawBelow(plan.tapes);
                    attempt(WRITTEN, written, drawBelow(MOST_FILE_BLOCKS) + 1, false);
                    break;
                case 6:
                    attempt(DROPPED, drawBelow(MOST_FILES), NONE, false);
                    break;
                case 7:
                    int copied = drawBelow(plan.tapes);
                    attempt(COPIED, copied, now.targetFor(copied), false);
                    break;
                default:
                    attempt(ASKED, drawBelow(MOST_FILES), NONE, false);
                    break;
            }
        }
        return now.time;
    }

    private int drawBelow(int bound) {
        draws = draws * DRAW_FACTOR + DRAW_ADDEND;
        return bound < 1 ? 0 : (int) ((draws >>> 33) % bound);
    }

    public int status(int what) {
        return what < 0 || what >= REASONS ? NONE : statuses[what];
    }

    public int undo() {
        if (past.kept == 0) {
            return NONE;
        }
        past.giveBack(now);
        log.takeBack();
        return past.kept;
    }

    public int log(int i, int what) {
        if (i < 0 || i >= log.length() || what < 0 || what > 2) {
            return HIDDEN;
        }
        return log.numberAt(i, what);
    }

    public int takes(int tape, int order) {
        if (!plan.isTape(tape) || order < 0 || order >= ORDERS) {
            return NONE;
        }
        orders.gather(now, tape);
        return orders.timeOf(order);
    }

    public int least(int tape) {
        if (!plan.isTape(tape)) {
            return NONE;
        }
        orders.gather(now, tape);
        return orders.leastTime();
    }

    public int all(int what) {
        if (!plan.isTold() || what < 0 || what > 2) {
            return NONE;
        }
        tryServing();
        switch (what) {
            case 0: return trial.time - now.time;
            case 1: return trial.mounts;
            default: return trialServings;
        }
    }

    public int served(int i) {
        tryServing();
        return i < 0 || i >= trialServings ? NONE : trialTapes[i];
    }

    public int soon(int file) {
        if (!now.isThere(file) || now.turn[file] == 0) {
            return NONE;
        }
        tryServing();
        for (int i = 0; i < trialServings; i++) {
            if (trialTapes[i] == now.home[file]) {
                return i + 1;
            }
        }
        return NONE;
    }

    private void beginTrial() {
        now.store(trialRow, 0);
        trial.load(trialRow, 0);
        trial.mounts = 0;
    }

    /** A serving reads all that is asked for of its tape, so there are no more servings than tapes. */
    private void tryServing() {
        beginTrial();
        trialServings = 0;
        for (int i = 0; i < MOST_TAPES && trial.askedFiles() > 0; i++) {
            trialTapes[i] = trial.serveNext();
            trialServings++;
        }
    }

    public int target(int tape) {
        return plan.isTape(tape) ? now.targetFor(tape) : NONE;
    }

    public int cheap(int blocks) {
        int cheapest = NONE;
        int leastTime = 0;
        for (int tape = 0; tape < plan.tapes; tape++) {
            if (now.refusal(WRITTEN, tape, blocks) == NONE) {
                beginTrial();
                trial.carryOut(WRITTEN, tape, blocks);
                int time = trial.time - now.time;
                if (cheapest == NONE || time < leastTime) {
                    cheapest = tape;
                    leastTime = time;
                }
            }
        }
        return cheapest;
    }

    public int idle(int n) {
        return now.refusal(PAUSED, n, NONE) == NONE ? now.idleAt(now.time + n) : NONE;
    }

    public int shares(int tape, int c) {
        if (!plan.isTape(tape) || c < 0 || c > MOST_SHARE) {
            return NONE;
        }
        int all = 0;
        for (int other = 0; other < plan.tapes; other++) {
            all += now.blocksOn(other);
        }
        return all == 0 ? 0 : c * now.blocksOn(tape) / all;
    }

    public int step(int script, int i, int what) {
        if (!isScript(script) || i < 0 || i >= scripts[script].steps) {
            return HIDDEN;
        }
        switch (what) {
            case 0: return scripts[script].acts[i];
            case 1: return scripts[script].firsts[i];
            case 2: return scripts[script].seconds[i];
            default: return HIDDEN;
        }
    }

    private boolean isScript(int script) {
        return script >= 0 && script < scriptCount;
    }

    public int run(int script, int what) {
        if (!isScript(script) || !plan.isTold() || what < 0 || what > 1) {
            return HIDDEN;
        }
        int done = tryScript(scripts[script]);
        if (what == 1) {
            return trial.time;
        }
        return done == scripts[script].steps ? NONE : done;
    }

    private int tryScript(Script script) {
        beginTrial();
        for (int i = 0; i < script.steps; i++) {
            if (trial.refusal(script.acts[i], script.firsts[i], script.seconds[i]) != NONE) {
                return i;
            }
            trial.carryOut(script.acts[i], script.firsts[i], script.seconds[i]);
        }
        return script.steps;
    }

    public int perform(int script) {
        if (!isScript(script) || !plan.isTold()) {
            return NONE;
        }
        Script told = scripts[script];
        for (int i = 0; i < told.steps; i++) {
            if (attempt(told.acts[i], told.firsts[i], told.seconds[i], false) == NONE) {
                return i;
            }
        }
        return told.steps;
    }

    public int most(int what) {
        if (!plan.isTold()) {
            return HIDDEN;
        }
        switch (what) {
            case 0: return now.time;
            case 1: return now.arm;
            case 2: return now.tapesInDrives();
            case 3: return now.weakTapes();
            case 4: return now.filesThere();
            case 5: return now.knownFiles();
            case 6: return now.askedFiles();
            case 7: return now.mendedBlocks();
            case 8: return now.roomiest();
            case 9: return now.longestUnused();
            case 10: return now.emptyTapes();
            default: return HIDDEN;
        }
    }

    public int image() {
        if (!plan.isTold()) {
            return NONE;
        }
        now.store(imageRow, 0);
        imageLog.become(log);
        hasImage = true;
        return now.time;
    }

    public int back() {
        if (!hasImage) {
            return NONE;
        }
        now.load(imageRow, 0);
        log.become(imageLog);
        past.clear();
        return now.time;
    }

    public int count(int what) {
        switch (what) {
            case 0: return plan.tapes;
            case 1: return scriptCount;
            case 2: return bytes.length;
            case 3: return log.length();
            case 4: return past.kept;
            case 5: return now.files;
            default: return HIDDEN;
        }
    }

    /** The bytes that are read, until they are taken as a text. */
    private static final class Bytes {
        private final int[] signs = new int[MOST_BYTES];
        private int length;

        static int signsIn(int four) {
            int signs = 0;
            for (int shift = 24; shift >= 0; shift -= 8) {
                signs += (four >>> shift & 255) == 0 ? 0 : 1;
            }
            return signs;
        }

        void add(int four) {
            for (int shift = 24; shift >= 0; shift -= 8) {
                int sign = four >>> shift & 255;
                if (sign != 0 && length < MOST_BYTES) {
                    signs[length] = sign;
                    length++;
                }
            }
        }

        int signAt(int i) {
            return i >= 0 && i < length && i < MOST_BYTES ? signs[i] : NONE;
        }
    }

    /** Reads the bytes as a hall or a script; each of its methods answers the fault it met, or NONE. */
    private static final class Reader {
        private final Bytes bytes;
        private final int[] values = new int[ITEMS];
        private final boolean[] told = new boolean[ITEMS];
        private boolean ruled;
        private int at;
        private int number;

        Reader(Bytes bytes) {
            this.bytes = bytes;
        }

        int readHall(Plan plan) {
            plan.clear();
            ruled = false;
            at = 0;
            for (int i = 0; i <= MOST_BYTES; i++) {
                int wrong = readClause(plan);
                if (wrong != NONE) {
                    return wrong;
                }
                if (bytes.signAt(at) == NONE) {
                    break;
                }
                at++;
            }
            return plan.tapes > 0 && plan.tapes <= plan.rules[SLOTS] ? NONE : bytes.length;
        }

        /** Leaves the cursor on the sign that ends the clause, or behind the last byte. */
        private int readClause(Plan plan) {
            int clause = indexIn(CLAUSE_LETTERS, nextSign());
            if (clause < 0 || isOneTooMany(clause, plan)) {
                return at;
            }
            at++;
            int wrong = readItems(CLAUSE_ITEMS[clause], CLAUSE_ITEMS[clause + 1]);
            if (wrong != NONE) {
                return wrong;
            }
            if (clause == RULES_CLAUSE) {
                ruled = true;
                plan.setRules(values);
            } else if (clause == TAPE_CLAUSE) {
                plan.addTape(values[LABEL_ITEM], values[WEAR_ITEM]);
            } else {
                plan.addFile(values[TAPE_ITEM], values[BLOCKS_ITEM]);
            }
            return NONE;
        }

        private boolean isOneTooMany(int clause, Plan plan) {
            if (clause == RULES_CLAUSE) {
                return ruled;
            }
            return clause == TAPE_CLAUSE ? plan.tapes >= MOST_TAPES : plan.files >= MOST_FILES;
        }

        private int readItems(int first, int behind) {
            for (int item = first; item < behind; item++) {
                values[item] = ITEM_DEFAULTS[item];
                told[item] = false;
            }
            for (int i = first; i <= behind; i++) {
                int sign = nextSign();
                if (sign == NONE || sign == ';') {
                    return NONE;
                }
                int item = indexIn(ITEM_LETTERS, sign);
                if (item < first || item >= behind || told[item]) {
                    return at;
                }
                at++;
                int wrong = readNumber(ITEM_LOWS[item], ITEM_HIGHS[item]);
                if (wrong != NONE) {
                    return wrong;
                }
                told[item] = true;
                values[item] = number;
            }
            return at;
        }

        int readScript(Script script) {
            script.steps = 0;
            at = 0;
            for (int i = 0; i < MOST_STEPS; i++) {
                int wrong = readStep(script);
                if (wrong != NONE) {
                    return wrong;
                }
                int sign = nextSign();
                if (sign == NONE) {
                    return NONE;
                }
                if (sign != ';' || script.steps == MOST_STEPS) {
                    return at;
                }
                at++;
            }
            return at;
        }

        private int readStep(Script script) {
            int act = indexIn(STEP_LETTERS, nextSign());
            if (act < 0) {
                return at;
            }
            at++;
            int form = STEP_FORMS[act];
            if (form == BARE) {
                script.add(act, NONE, NONE);
                return NONE;
            }
            int wrong = form == NUMBER ? readNumber(0, 99) : readDigit();
            int first = number;
            if (wrong == NONE && form == PAIR) {
                wrong = readComma();
                if (wrong == NONE) {
                    wrong = readDigit();
                }
            }
            if (wrong == NONE) {
                script.add(act, first, form == PAIR ? number : NONE);
            }
            return wrong;
        }

        /** A third digit is wrong itself, so it is looked for ahead of the bounds. */
        private int readNumber(int low, int high) {
            int wrong = readDigit();
            if (wrong != NONE) {
                return wrong;
            }
            if (isDigit(bytes.signAt(at))) {
                number = number * 10 + bytes.signAt(at) - '0';
                at++;
            }
            if (isDigit(bytes.signAt(at))) {
                return at;
            }
            return number < low || number > high ? at - 1 : NONE;
        }

        private int readDigit() {
            int sign = nextSign();
            if (!isDigit(sign)) {
                return at;
            }
            number = sign - '0';
            at++;
            return NONE;
        }

        private int readComma() {
            if (nextSign() != ',') {
                return at;
            }
            at++;
            return NONE;
        }

        private int nextSign() {
            while (at < bytes.length && bytes.signAt(at) == ' ') {
                at++;
            }
            return bytes.signAt(at);
        }

        private static int indexIn(String letters, int sign) {
            return sign == NONE ? NONE : letters.indexOf((char) sign);
        }

        private static boolean isDigit(int sign) {
            return sign >= '0' && sign <= '9';
        }
    }

    /** A script as it was told. */
    private static final class Script {
        private final int[] acts = new int[MOST_STEPS];
        private final int[] firsts = new int[MOST_STEPS];
        private final int[] seconds = new int[MOST_STEPS];
        private int steps;

        void add(int act, int first, int second) {
            if (steps < MOST_STEPS) {
                acts[steps] = act;
                firsts[steps] = first;
                seconds[steps] = second;
                steps++;
            }
        }

        void become(Script other) {
            steps = other.steps;
            System.arraycopy(other.acts, 0, acts, 0, MOST_STEPS);
            System.arraycopy(other.firsts, 0, firsts, 0, MOST_STEPS);
            System.arraycopy(other.seconds, 0, seconds, 0, MOST_STEPS);
        }
    }

    /** A hall as it was told, which no act changes; without tapes there is no hall. */
    private static final class Plan {
        private final int[] rules = new int[RULES];
        private int tapes;
        private final int[] labels = new int[MOST_TAPES];
        private final int[] wears = new int[MOST_TAPES];
        private int files;
        private final int[] fileTapes = new int[MOST_FILES];
        private final int[] fileBlocks = new int[MOST_FILES];
        private int tapeBlocks;
        private final int[] spots = new int[MOST_BLOCKS];
        private final int[] wraps = new int[MOST_BLOCKS];

        void clear() {
            tapes = 0;
            files = 0;
            setRules(ITEM_DEFAULTS);
        }

        void setRules(int[] values) {
            System.arraycopy(values, 0, rules, 0, RULES);
        }

        void addTape(int label, int wear) {
            if (tapes < MOST_TAPES) {
                labels[tapes] = label;
                wears[tapes] = wear;
                tapes++;
            }
        }

        void addFile(int tape, int blocks) {
            if (files < MOST_FILES) {
                fileTapes[files] = tape;
                fileBlocks[files] = blocks;
                files++;
            }
        }

        /** Spots and wraps are laid out once, as seeking asks for them over and over. */
        void layOut() {
            int length = rules[LENGTH];
            tapeBlocks = Math.min(length * rules[WRAPS], MOST_BLOCKS);
            for (int block = 0; block < tapeBlocks && length > 0; block++) {
                int along = block % length;
                wraps[block] = block / length;
                spots[block] = wraps[block] % 2 == 0 ? along : length - 1 - along;
            }
        }

        void become(Plan other) {
            tapes = other.tapes;
            files = other.files;
            System.arraycopy(other.rules, 0, rules, 0, RULES);
            System.arraycopy(other.labels, 0, labels, 0, MOST_TAPES);
            System.arraycopy(other.wears, 0, wears, 0, MOST_TAPES);
            System.arraycopy(other.fileTapes, 0, fileTapes, 0, MOST_FILES);
            System.arraycopy(other.fileBlocks, 0, fileBlocks, 0, MOST_FILES);
            layOut();
        }

        boolean isTold() {
            return tapes > 0;
        }

        boolean isTape(int tape) {
            return tape >= 0 && tape < tapes;
        }

        boolean isPlace(int place) {
            return isTold() && place >= 0 && place < rules[SLOTS] + rules[DRIVES];
        }

        boolean isBlock(int block) {
            return block >= 0 && block < tapeBlocks;
        }

        int armTime(int place, int other) {
            return rules[ARM] * (place < other ? other - place : place - other);
        }

        int seekTime(int block, int other) {
            if (block < 0 || other < 0 || block >= tapeBlocks || other >= tapeBlocks) {
                return 0;
            }
            int apart = spots[block] - spots[other];
            return (apart < 0 ? -apart : apart) + (wraps[block] == wraps[other] ? 0 : 2);
        }
    }

    /** All that acts change but the log, and how they change it. */
    private static final class Stage {
        private static final int CELLS = 4 + 6 * MOST_TAPES + 5 * MOST_FILES;

        private final Plan plan;
        private final Orders orders;
        private int time;
        private int arm;
        private int turns;
        private int files;
        /** How many mounts a trial took: nothing that an act leaves behind, so no row keeps it. */
        private int mounts;
        private final int[] drive = new int[MOST_TAPES];
        private final int[] head = new int[MOST_TAPES];
        private final int[] end = new int[MOST_TAPES];
        private final int[] wear = new int[MOST_TAPES];
        private final int[] mended = new int[MOST_TAPES];
        private final int[] used = new int[MOST_TAPES];
        private final int[] home = new int[MOST_FILES];
        private final int[] start = new int[MOST_FILES];
        private final int[] blocks = new int[MOST_FILES];
        private final int[] known = new int[MOST_FILES];
        private final int[] turn = new int[MOST_FILES];

        Stage(Plan plan, Orders orders) {
            this.plan = plan;
            this.orders = orders;
        }

        void begin() {
            time = 0;
            arm = 0;
            turns = 0;
            files = 0;
            for (int tape = 0; tape < MOST_TAPES; tape++) {
                drive[tape] = NONE;
                head[tape] = 0;
                end[tape] = 0;
                wear[tape] = plan.wears[tape];
                mended[tape] = 0;
                used[tape] = 0;
            }
            for (int i = 0; i < plan.files; i++) {
                if (plan.isTape(plan.fileTapes[i]) && hasRoom(plan.fileTapes[i], plan.fileBlocks[i])) {
                    addFile(plan.fileTapes[i], plan.fileBlocks[i]);
                }
            }
        }

        void store(int[] row, int at) {
            row[at] = time;
            row[at + 1] = arm;
            row[at + 2] = turns;
            row[at + 3] = files;
            int tapesAt = at + 4;
            System.arraycopy(drive, 0, row, tapesAt, MOST_TAPES);
            System.arraycopy(head, 0, row, tapesAt + MOST_TAPES, MOST_TAPES);
            System.arraycopy(end, 0, row, tapesAt + 2 * MOST_TAPES, MOST_TAPES);
            System.arraycopy(wear, 0, row, tapesAt + 3 * MOST_TAPES, MOST_TAPES);
            System.arraycopy(mended, 0, row, tapesAt + 4 * MOST_TAPES, MOST_TAPES);
            System.arraycopy(used, 0, row, tapesAt + 5 * MOST_TAPES, MOST_TAPES);
            int filesAt = tapesAt + 6 * MOST_TAPES;
            System.arraycopy(home, 0, row, filesAt, MOST_FILES);
            System.arraycopy(start, 0, row, filesAt + MOST_FILES, MOST_FILES);
            System.arraycopy(blocks, 0, row, filesAt + 2 * MOST_FILES, MOST_FILES);
            System.arraycopy(known, 0, row, filesAt + 3 * MOST_FILES, MOST_FILES);
            System.arraycopy(turn, 0, row, filesAt + 4 * MOST_FILES, MOST_FILES);
        }

        void load(int[] row, int at) {
            time = row[at];
            arm = row[at + 1];
            turns = row[at + 2];
            files = row[at + 3];
            int tapesAt = at + 4;
            System.arraycopy(row, tapesAt, drive, 0, MOST_TAPES);
            System.arraycopy(row, tapesAt + MOST_TAPES, head, 0, MOST_TAPES);
            System.arraycopy(row, tapesAt + 2 * MOST_TAPES, end, 0, MOST_TAPES);
            System.arraycopy(row, tapesAt + 3 * MOST_TAPES, wear, 0, MOST_TAPES);
            System.arraycopy(row, tapesAt + 4 * MOST_TAPES, mended, 0, MOST_TAPES);
            System.arraycopy(row, tapesAt + 5 * MOST_TAPES, used, 0, MOST_TAPES);
            int filesAt = tapesAt + 6 * MOST_TAPES;
            System.arraycopy(row, filesAt, home, 0, MOST_FILES);
            System.arraycopy(row, filesAt + MOST_FILES, start, 0, MOST_FILES);
            System.arraycopy(row, filesAt + 2 * MOST_FILES, blocks, 0, MOST_FILES);
            System.arraycopy(row, filesAt + 3 * MOST_FILES, known, 0, MOST_FILES);
            System.arraycopy(row, filesAt + 4 * MOST_FILES, turn, 0, MOST_FILES);
        }

        /** Why an act can't be, the first reason of several; NONE if it can be. */
        int refusal(int act, int a, int b) {
            switch (act) {
                case ASKED:
                    return askingRefusal(a);
                case WRITTEN:
                    return writingRefusal(a, b);
                case DROPPED:
                    return isThere(a) ? NONE : NO_SUCH;
                case MOUNTED:
                    return !plan.isTape(a) ? NO_SUCH : drive[a] != NONE ? CANNOT : NONE;
                case UNMOUNTED:
                    return !plan.isTape(a) ? NO_SUCH : drive[a] == NONE ? CANNOT : NONE;
                case COPIED:
                    return copyingRefusal(a, b);
                case READ_THROUGH:
                    return plan.isTape(a) ? NONE : NO_SUCH;
                default:
                    return plan.isTold() ? hallRefusal(act, a) : NO_SUCH;
            }
        }

        private int askingRefusal(int file) {
            if (!isThere(file)) {
                return NO_SUCH;
            }
            if (known[file] == 0 || turn[file] != 0) {
                return CANNOT;
            }
            return askedFiles() >= MOST_ASKED ? TOO_MUCH : NONE;
        }

        private int writingRefusal(int tape, int count) {
            if (!plan.isTape(tape)) {
                return NO_SUCH;
            }
            if (count < 1 || count > MOST_FILE_BLOCKS) {
                return OUT_OF_BOUNDS;
            }
            return files >= MOST_FILES || !hasRoom(tape, count) ? TOO_MUCH : NONE;
        }

        private int copyingRefusal(int tape, int other) {
            if (!plan.isTape(tape) || !plan.isTape(other)) {
                return NO_SUCH;
            }
            return tape == other || end[other] != 0 || filesOn(tape) == 0 ? CANNOT : NONE;
        }

        private int hallRefusal(int act, int a) {
            switch (act) {
                case SERVED: return askedFiles() == 0 ? CANNOT : NONE;
                case LOST: return knownFiles() == 0 ? CANNOT : NONE;
                case PAUSED: return a < 1 || a > MOST_PAUSE ? OUT_OF_BOUNDS : NONE;
                default: return canRescue() ? NONE : CANNOT;
            }
        }

        /** All weak tapes have the same empty tapes for targets, yet each is looked at, as told. */
        private boolean canRescue() {
            int weak = weakTapes();
            for (int tape = 0; tape < plan.tapes; tape++) {
                if ((weak >> tape & 1) == 1 && targetFor(tape) != NONE) {
                    return true;
                }
            }
            return false;
        }

        /** Does an act that is not refused: the answer that is due. */
        int carryOut(int act, int a, int b) {
            switch (act) {
                case ASKED: return askFor(a);
                case SERVED: return serveNext();
                case WRITTEN: return writeNew(a, b);
                case DROPPED: return dropFile(a);
                case MOUNTED: return bringIn(a);
                case UNMOUNTED: return putAway(a);
                case COPIED: return copyTo(a, b);
                case LOST: return loseCatalog();
                case READ_THROUGH: return readThrough(a);
                case PAUSED: return waitFor(a);
                default: return rescueWeak();
            }
        }

        private int askFor(int file) {
            turns++;
            turn[file] = turns;
            return turns;
        }

        int serveNext() {
            int tape = nextServed();
            if (tape == NONE) {
                return NONE;
            }
            bringIn(tape);
            orders.gather(this, tape);
            orders.arrangeBest();
            for (int i = 0; i < orders.count; i++) {
                int file = orders.fileAt(i);
                readRow(tape, start[file], blocks[file]);
                turn[file] = 0;
            }
            return tape;
        }

        private int nextServed() {
            int inDrive = NONE;
            int mostInDrive = 0;
            int anywhere = NONE;
            int mostAnywhere = 0;
            for (int tape = 0; tape < plan.tapes; tape++) {
                int asked = askedOn(tape);
                if (drive[tape] != NONE && asked > mostInDrive) {
                    inDrive = tape;
                    mostInDrive = asked;
                }
                if (asked > mostAnywhere) {
                    anywhere = tape;
                    mostAnywhere = asked;
                }
            }
            return inDrive != NONE ? inDrive : anywhere;
        }

        private int writeNew(int tape, int count) {
            bringIn(tape);
            writeRow(tape, end[tape], count);
            addFile(tape, count);
            return files - 1;
        }

        private int dropFile(int file) {
            home[file] = NONE;
            known[file] = 0;
            turn[file] = 0;
            return blocks[file];
        }

        /** Mounts a tape unless it is in a drive already: the drive it is in then. */
        private int bringIn(int tape) {
            if (drive[tape] != NONE) {
                return drive[tape];
            }
            int into = lowestEmptyDrive();
            if (into == NONE) {
                into = putAway(longestUnused());
            }
            int place = plan.rules[SLOTS] + into;
            time += plan.armTime(arm, tape) + plan.armTime(tape, place) + plan.rules[MOUNT];
            arm = place;
            drive[tape] = into;
            head[tape] = 0;
            wear[tape] = Math.min(wear[tape] + 1, MOST_WEAR);
            used[tape] = time;
            mounts++;
            return into;
        }

        /** Unmounts a tape: the drive it was in. A tape in its slot has its head at 0, as takes() asks. */
        private int putAway(int tape) {
            if (!plan.isTape(tape)) {
                return 0;
            }
            int from = drive[tape];
            int place = plan.rules[SLOTS] + from;
            time += plan.seekTime(head[tape], 0) + plan.rules[MOUNT];
            time += plan.armTime(arm, place) + plan.armTime(place, tape);
            arm = tape;
            drive[tape] = NONE;
            head[tape] = 0;
            return from;
        }

        private void readRow(int tape, int first, int count) {
            writeRow(tape, first, count);
            if (wear[tape] > plan.rules[WORN]) {
                mended[tape] += count;
            }
        }

        private void writeRow(int tape, int first, int count) {
            time += plan.seekTime(head[tape], first) + count;
            head[tape] = first + count - 1;
            used[tape] = time;
        }

        private int copyTo(int tape, int other) {
            bringIn(tape);
            int from = 0;
            for (int i = 0; i < files; i++) {
                int file = firstFile(tape, from);
                if (file == NONE) {
                    break;
                }
                readRow(tape, start[file], blocks[file]);
                from = start[file] + blocks[file];
            }
            bringIn(other);
            int copied = 0;
            for (int i = 0; i < files; i++) {
                int file = firstFile(tape, 0);
                if (file == NONE) {
                    break;
                }
                writeRow(other, end[other], blocks[file]);
                putBehind(file, other);
                copied++;
            }
            end[tape] = 0;
            mended[tape] = 0;
            return copied;
        }

        private int loseCatalog() {
            int lost = knownFiles();
            for (int file = 0; file < files; file++) {
                known[file] = 0;
                turn[file] = 0;
            }
            return lost;
        }

        private int readThrough(int tape) {
            bringIn(tape);
            if (end[tape] > 0) {
                readRow(tape, 0, end[tape]);
            }
            int found = 0;
            for (int file = 0; file < files; file++) {
                if (home[file] == tape) {
                    found += 1 - known[file];
                    known[file] = 1;
                }
            }
            return found;
        }

        private int waitFor(int n) {
            time += n;
            int idle = idleAt(time);
            for (int tape = 0; tape < plan.tapes; tape++) {
                if ((idle >> tape & 1) == 1) {
                    putAway(tape);
                }
            }
            return Integer.bitCount(idle);
        }

        private int rescueWeak() {
            int weak = weakTapes();
            int copied = 0;
            for (int tape = 0; tape < plan.tapes; tape++) {
                int target = (weak >> tape & 1) == 1 ? targetFor(tape) : NONE;
                if (target != NONE) {
                    copyTo(tape, target);
                    copied++;
                }
            }
            return copied;
        }

        private void addFile(int tape, int count) {
            if (files < MOST_FILES) {
                blocks[files] = count;
                turn[files] = 0;
                putBehind(files, tape);
                files++;
            }
        }

        private void putBehind(int file, int tape) {
            home[file] = tape;
            start[file] = end[tape];
            known[file] = 1;
            end[tape] += blocks[file];
        }

        private boolean hasRoom(int tape, int count) {
            return end[tape] + count <= plan.tapeBlocks;
        }

        boolean isFile(int file) {
            return file >= 0 && file < files;
        }

        boolean isThere(int file) {
            return isFile(file) && home[file] != NONE;
        }

        int placeOf(int tape) {
            return drive[tape] == NONE ? tape : plan.rules[SLOTS] + drive[tape];
        }

        int tapeIn(int place) {
            for (int tape = 0; tape < plan.tapes; tape++) {
                if (drive[tape] == place) {
                    return tape;
                }
            }
            return NONE;
        }

        private int lowestEmptyDrive() {
            for (int i = 0; i < plan.rules[DRIVES]; i++) {
                if (tapeIn(i) == NONE) {
                    return i;
                }
            }
            return NONE;
        }

        /** Every use takes time, so no two tapes were used last at the same time. */
        int longestUnused() {
            int oldest = NONE;
            for (int tape = 0; tape < plan.tapes; tape++) {
                if (drive[tape] != NONE && (oldest == NONE || used[tape] < used[oldest])) {
                    oldest = tape;
                }
            }
            return oldest;
        }

        /** The file of a tape with the lowest start from a block on. */
        private int firstFile(int tape, int from) {
            int first = NONE;
            for (int file = 0; file < files; file++) {
                boolean behind = home[file] == tape && start[file] >= from;
                if (behind && (first == NONE || start[file] < start[first])) {
                    first = file;
                }
            }
            return first;
        }

        int filesOn(int tape) {
            int there = 0;
            for (int file = 0; file < files; file++) {
                there += home[file] == tape ? 1 : 0;
            }
            return there;
        }

        int blocksOn(int tape) {
            int there = 0;
            for (int file = 0; file < files; file++) {
                there += home[file] == tape ? blocks[file] : 0;
            }
            return there;
        }

        int askedOn(int tape) {
            int asked = 0;
            for (int file = 0; file < files; file++) {
                asked += home[file] == tape && turn[file] != 0 ? 1 : 0;
            }
            return asked;
        }

        int askedFiles() {
            int asked = 0;
            for (int file = 0; file < files; file++) {
                asked += turn[file] != 0 ? 1 : 0;
            }
            return asked;
        }

        int filesThere() {
            return files - filesOn(NONE);
        }

        /** Dropping a file makes it unknown, so none that is gone is counted. */
        int knownFiles() {
            int sum = 0;
            for (int file = 0; file < files; file++) {
                sum += known[file];
            }
            return sum;
        }

        int mendedBlocks() {
            int sum = 0;
            for (int tape = 0; tape < plan.tapes; tape++) {
                sum += mended[tape];
            }
            return sum;
        }

        int roomiest() {
            int best = 0;
            for (int tape = 1; tape < plan.tapes; tape++) {
                best = end[tape] < end[best] ? tape : best;
            }
            return best;
        }

        int targetFor(int tape) {
            if (filesOn(tape) == 0) {
                return NONE;
            }
            int best = NONE;
            for (int other = 0; other < plan.tapes; other++) {
                boolean canBe = other != tape && end[other] == 0;
                if (canBe && (best == NONE || wear[other] < wear[best])) {
                    best = other;
                }
            }
            return best;
        }

        int tapesInDrives() {
            int bits = 0;
            for (int tape = 0; tape < plan.tapes; tape++) {
                bits |= drive[tape] != NONE ? 1 << tape : 0;
            }
            return bits;
        }

        int weakTapes() {
            int bits = 0;
            for (int tape = 0; tape < plan.tapes; tape++) {
                bits |= wear[tape] > plan.rules[WORN] && filesOn(tape) > 0 ? 1 << tape : 0;
            }
            return bits;
        }

        int emptyTapes() {
            int bits = 0;
            for (int tape = 0; tape < plan.tapes; tape++) {
                bits |= end[tape] == 0 ? 1 << tape : 0;
            }
            return bits;
        }

        int idleAt(int moment) {
            int bits = 0;
            for (int tape = 0; tape < plan.tapes; tape++) {
                bits |= drive[tape] != NONE && moment - used[tape] > plan.rules[IDLE] ? 1 << tape : 0;
            }
            return bits;
        }
    }

    /** The files of one tape that are asked for, and the rows into which they can be put. */
    private static final class Orders {
        private static final int FAR = 1000000;
        private static final int BY_START = 0;
        private static final int BY_NEARNESS = 1;

        private final Plan plan;
        private int count;
        private int head;
        private final int[] file = new int[MOST_ASKED];
        private final int[] start = new int[MOST_ASKED];
        private final int[] blocks = new int[MOST_ASKED];
        private final int[] turn = new int[MOST_ASKED];
        private final int[] row = new int[MOST_ASKED];
        private final int[] ways = new int[MOST_ASKED * MOST_ASKED];
        /** Least times by set and last one of it; it grows when that is asked for, as few halls ever do. */
        private int[] table = new int[0];

        Orders(Plan plan) {
            this.plan = plan;
        }

        void gather(Stage stage, int tape) {
            count = 0;
            head = stage.head[tape];
            for (int i = 0; i < stage.files && count < MOST_ASKED; i++) {
                if (stage.home[i] == tape && stage.turn[i] != 0) {
                    file[count] = i;
                    start[count] = stage.start[i];
                    blocks[count] = stage.blocks[i];
                    turn[count] = stage.turn[i];
                    count++;
                }
            }
        }

        int fileAt(int i) {
            return file[row[i]];
        }

        /** Leaves the row in the order that takes least, of several the first. */
        void arrangeBest() {
            int best = 0;
            int bestTime = timeOf(0);
            for (int order = 1; order < ORDERS; order++) {
                int time = timeOf(order);
                if (time < bestTime) {
                    best = order;
                    bestTime = time;
                }
            }
            timeOf(best);
        }

        /** Puts the row into an order: how much time it takes. */
        int timeOf(int order) {
            for (int i = 0; i < count; i++) {
                row[i] = i;
            }
            int at = head;
            int time = 0;
            for (int place = 0; place < count; place++) {
                int chosen = place;
                for (int i = place + 1; i < count; i++) {
                    chosen = isAhead(order, row[i], row[chosen], at) ? i : chosen;
                }
                int next = row[chosen];
                row[chosen] = row[place];
                row[place] = next;
                time += plan.seekTime(at, start[next]) + blocks[next];
                at = start[next] + blocks[next] - 1;
            }
            return time;
        }

        private boolean isAhead(int order, int one, int other, int at) {
            if (order == BY_START) {
                return start[one] < start[other];
            }
            if (order == BY_NEARNESS) {
                int oneWay = plan.seekTime(at, start[one]);
                int otherWay = plan.seekTime(at, start[other]);
                return oneWay < otherWay || oneWay == otherWay && start[one] < start[other];
            }
            return turn[one] < turn[other];
        }

        /** The least time of all rows, by sets of files and the last one read of each set. */
        int leastTime() {
            if (count == 0) {
                return 0;
            }
            int sets = 1 << count;
            if (table.length < sets * count) {
                table = new int[sets * count];
            }
            int blocksOfAll = 0;
            for (int i = 0; i < count; i++) {
                blocksOfAll += blocks[i];
                int last = start[i] + blocks[i] - 1;
                for (int j = 0; j < count; j++) {
                    ways[i * count + j] = plan.seekTime(last, start[j]);
                }
            }
            for (int set = 1; set < sets; set++) {
                fillTable(set);
            }
            int least = FAR;
            for (int last = 0; last < count; last++) {
                least = Math.min(least, table[(sets - 1) * count + last]);
            }
            return least + blocksOfAll;
        }

        private void fillTable(int set) {
            for (int last = 0; last < count; last++) {
                if ((set >> last & 1) == 1) {
                    int rest = set ^ 1 << last;
                    table[set * count + last] = rest == 0 ? plan.seekTime(head, start[last]) : leastBehind(rest, last);
                }
            }
        }

        private int leastBehind(int set, int next) {
            int least = FAR;
            for (int last = 0; last < count; last++) {
                if ((set >> last & 1) == 1) {
                    least = Math.min(least, table[set * count + last] + ways[last * count + next]);
                }
            }
            return least;
        }
    }

    /** The latest stages ahead of acts, in one ring of rows. */
    private static final class Past {
        private final int[] rows = new int[MOST_UNDONE * Stage.CELLS];
        private int kept;
        private int next;

        void clear() {
            kept = 0;
            next = 0;
        }

        void keep(Stage stage) {
            stage.store(rows, next * Stage.CELLS);
            next = (next + 1) % MOST_UNDONE;
            kept = Math.min(kept + 1, MOST_UNDONE);
        }

        void giveBack(Stage stage) {
            if (kept > 0) {
                next = (next + MOST_UNDONE - 1) % MOST_UNDONE;
                stage.load(rows, next * Stage.CELLS);
                kept--;
            }
        }
    }

    /** The log; its ring holds more than is told, so that what undoing brings back is still there. */
    private static final class Log {
        private static final int RING = MOST_LOG + MOST_UNDONE;
        private static final int NUMBERS = 3;

        private final int[] ring = new int[RING * NUMBERS];
        private int total;

        void clear() {
            total = 0;
        }

        void add(int act, int number, int time) {
            int at = total % RING * NUMBERS;
            ring[at] = act;
            ring[at + 1] = number;
            ring[at + 2] = time;
            total++;
        }

        void takeBack() {
            total = Math.max(total - 1, 0);
        }

        int length() {
            return Math.min(total, MOST_LOG);
        }

        int numberAt(int i, int what) {
            return i < 0 || i >= total ? HIDDEN : ring[(total - 1 - i) % RING * NUMBERS + what];
        }

        void become(Log other) {
            total = other.total;
            System.arraycopy(other.ring, 0, ring, 0, RING * NUMBERS);
        }
    }
}
