/**
 * Wires and the gates that drive them, told in a text and followed in time, cycle by cycle.
 *
 * All rows are made as the object is made and used again by every call, since all calls
 * of a run live in one room; after the constructor no call makes an object.
 */
public final class DeltaCycles {
    public static final int NONE = -1, UNKNOWN = -1000000001, OUTSIDE = -1000000002, NOT = -1000000003, FULL = -1000000004;

    private static final int MOST_WIRES = 8;
    private static final int MOST_GATES = 8;
    private static final int MOST_LEVEL = 3;
    private static final int MOST_DELAY = 20;
    private static final int MOST_RUN = 200;
    private static final int MOST_DRIFT = 16;
    private static final int MOST_UNDONE = 16;
    private static final int MOST_SETTLING = 100;
    private static final int FAULT_BASE = -10;

    private final Reader reader;
    private Plan plan;
    private Plan sparePlan;
    private final Moment now;
    private final Moment trial;
    private final Past past;
    private final Image firstImage;
    private final Image secondImage;
    private final Book book;
    private final Draws draws;

    public DeltaCycles() {
        reader = new Reader();
        plan = new Plan();
        sparePlan = new Plan();
        now = new Moment();
        trial = new Moment();
        past = new Past();
        firstImage = new Image();
        secondImage = new Image();
        book = new Book();
        draws = new Draws();
    }

    // ---- wires and gates

    public int feed(int letter) {
        if (letter < 0 || letter > 255) {
            return OUTSIDE;
        }
        return reader.addLetter(letter);
    }

    public int wires() {
        int faultNumber = reader.readInto(sparePlan);
        reader.dropText();
        if (faultNumber != Reader.NO_FAULT) {
            return FAULT_BASE - faultNumber;
        }
        Plan taken = sparePlan;
        sparePlan = plan;
        plan = taken;
        now.begin(plan);
        past.forget();
        firstImage.forget();
        secondImage.forget();
        book.empty();
        return plan.wireCount;
    }

    public int fault() {
        return reader.faultPlace;
    }

    public int told(int what) {
        switch (what) {
            case 0: return plan.wireCount;
            case 1: return plan.gateCount;
            case 2: return reader.length;
            case 3: return now.time;
            case 4: return now.cycles;
            case 5: return now.endless ? 1 : 0;
            case 6: return now.isStill() ? 1 : 0;
            case 7: return now.holdingGates(plan);
            case 8: return now.flickering;
            case 9: return stepsTillStill();
            case 10: return now.handCount;
            case 11: return book.count;
            case 12: return book.firstWrong(plan, now);
            case 13: return past.count;
            default: return OUTSIDE;
        }
    }

    public int wire(int w, int what) {
        if (!plan.hasWire(w)) {
            return UNKNOWN;
        }
        switch (what) {
            case 0: return now.level[w];
            case 1: return plan.driversOf(w);
            case 2: return now.changes[w];
            case 3: return now.lastChange[w];
            case 4: return plan.lookersAt(w);
            default: return OUTSIDE;
        }
    }

    public int wave(int w, int k, int what) {
        if (!plan.hasWire(w)) {
            return UNKNOWN;
        }
        switch (what) {
            case 0: return now.changeTime(w, k);
            case 1: return now.changeLevel(w, k);
            default: return OUTSIDE;
        }
    }

    public int gate(int g, int what) {
        if (!plan.hasGate(g)) {
            return UNKNOWN;
        }
        switch (what) {
            case 0: return plan.kind[g];
            case 1: return plan.first[g];
            case 2: return plan.second[g];
            case 3: return plan.target[g];
            case 4: return plan.delay[g];
            case 5: return plan.mode[g];
            case 6: return now.drive[g];
            case 7: return now.outcomeOf(plan, g);
            case 8: return now.waiting[g];
            case 9: return now.drivenLevel(plan, plan.target[g], g);
            default: return OUTSIDE;
        }
    }

    public int queue(int g, int k, int what) {
        if (!plan.hasGate(g)) {
            return UNKNOWN;
        }
        switch (what) {
            case 0: return now.waitingTime(g, k);
            case 1: return now.waitingLevel(g, k);
            default: return OUTSIDE;
        }
    }

    public int resolved(int a, int b) {
        if (!Levels.isLevel(a) || !Levels.isLevel(b)) {
            return UNKNOWN;
        }
        return Levels.join(a, b);
    }

    public int comes(int kind, int a, int b) {
        if (!Levels.isLevel(a) || !Levels.isLevel(b)) {
            return UNKNOWN;
        }
        if (kind < Levels.INVERT || kind > Levels.THROUGH) {
            return OUTSIDE;
        }
        return Levels.outcome(kind, a, b, Levels.LOOSE);
    }

    // ---- deeds

    public int step() {
        if (now.endless || now.isStill()) {
            return NOT;
        }
        past.remember(now);
        now.advance(plan);
        return now.time;
    }

    public int run(int n) {
        if (n < 1 || n > MOST_RUN) {
            return OUTSIDE;
        }
        if (now.endless) {
            return NOT;
        }
        past.remember(now);
        return now.advanceTo(plan, now.time + n);
    }

    public int set(int w, int level, int d) {
        if (!plan.hasWire(w) || !Levels.isLevel(level)) {
            return UNKNOWN;
        }
        if (d < 0 || d > MOST_DELAY) {
            return OUTSIDE;
        }
        if (!maySetByHand(w)) {
            return NOT;
        }
        if (now.handIsFull()) {
            return FULL;
        }
        past.remember(now);
        now.addByHand(w, level, now.time + d);
        return now.handCount;
    }

    public int calm() {
        if (!now.endless) {
            return NOT;
        }
        past.remember(now);
        now.endless = false;
        now.tellAll(plan);
        return now.time;
    }

    public int drift(int n) {
        if (n < 1 || n > MOST_DRIFT) {
            return OUTSIDE;
        }
        if (plan.wireCount > 0) {
            for (int i = 0; i < n; i++) {
                driftOnce();
            }
        }
        return now.time;
    }

    public int undo(int n) {
        if (n < 1 || n > MOST_UNDONE) {
            return OUTSIDE;
        }
        if (n > past.count) {
            return NOT;
        }
        past.bringBack(n, now);
        return now.time;
    }

    // ---- the book

    public int write(int w, int level) {
        if (!plan.hasWire(w) || !Levels.isLevel(level)) {
            return UNKNOWN;
        }
        return book.addEntry(w, level);
    }

    public int tear() {
        int had = book.count;
        book.empty();
        return had;
    }

    // ---- images

    public int seed(int v) {
        if (v < 0) {
            return OUTSIDE;
        }
        int was = draws.state;
        draws.state = v;
        return was;
    }

    public int keep(int i) {
        Image image = imageOf(i);
        if (image == null) {
            return UNKNOWN;
        }
        image.take(now, draws);
        past.forget();
        return 1;
    }

    public int goBack(int i) {
        Image image = imageOf(i);
        if (image == null) {
            return UNKNOWN;
        }
        if (!image.isKept) {
            return NOT;
        }
        image.give(now, draws);
        past.forget();
        return 1;
    }

    private Image imageOf(int i) {
        if (i == 0) {
            return firstImage;
        }
        return i == 1 ? secondImage : null;
    }

    private boolean maySetByHand(int w) {
        return !now.endless && plan.driversOf(w) == 0;
    }

    /** One of the times by draws; all three draws are made even where nothing can be set. */
    private void driftOnce() {
        past.remember(now);
        int w = draws.draw(plan.wireCount);
        int level = draws.draw(MOST_LEVEL + 1);
        int d = draws.draw(MOST_DELAY + 1);
        if (maySetByHand(w) && !now.handIsFull()) {
            now.addByHand(w, level, now.time + d);
        }
        if (!now.endless && !now.isStill()) {
            now.advance(plan);
        }
    }

    /** Tried out on another moment, as nothing changes by asking. */
    private int stepsTillStill() {
        trial.copyFrom(now);
        int steps = 0;
        while (steps < MOST_SETTLING && !trial.endless && !trial.isStill()) {
            trial.advance(plan);
            steps++;
        }
        return trial.endless || !trial.isStill() ? NONE : steps;
    }

    /** What levels are, and what comes of them. */
    private static final class Levels {
        static final int LOOSE = 2, UNSURE = 3;
        static final int INVERT = 0, AND = 1, OR = 2, EITHER = 3, THROUGH = 4, HOLD = 5;

        static boolean isLevel(int v) {
            return v >= 0 && v <= MOST_LEVEL;
        }

        static int join(int a, int b) {
            if (a == LOOSE || a == b) {
                return b;
            }
            return b == LOOSE ? a : UNSURE;
        }

        /**
         * What a gate of a kind makes of what it looks at; what it drives has a say in HOLD alone.
         * A gate cannot tell a loose wire from an unsure one.
         */
        static int outcome(int kind, int a, int b, int drives) {
            int x = a == LOOSE ? UNSURE : a;
            int y = b == LOOSE ? UNSURE : b;
            boolean unsure = x == UNSURE || y == UNSURE;
            switch (kind) {
                case INVERT: return x == UNSURE ? UNSURE : 1 - x;
                case AND: return x == 0 || y == 0 ? 0 : unsure ? UNSURE : 1;
                case OR: return x == 1 || y == 1 ? 1 : unsure ? UNSURE : 0;
                case EITHER: return unsure ? UNSURE : x ^ y;
                case THROUGH: return y == 0 ? LOOSE : y == 1 ? x : UNSURE;
                default: return y == 1 ? x : drives;
            }
        }
    }

    /** What a text told: it stays as it is till the next text. */
    private static final class Plan {
        int wireCount;
        int gateCount;
        final int[] firstLevel = new int[MOST_WIRES];
        final int[] kind = new int[MOST_GATES];
        final int[] first = new int[MOST_GATES];
        final int[] second = new int[MOST_GATES];
        final int[] target = new int[MOST_GATES];
        final int[] delay = new int[MOST_GATES];
        final int[] mode = new int[MOST_GATES];

        void empty() {
            wireCount = 0;
            gateCount = 0;
        }

        boolean hasWire(int w) {
            return w >= 0 && w < wireCount;
        }

        boolean hasGate(int g) {
            return g >= 0 && g < gateCount;
        }

        void addWire(int level) {
            if (wireCount < MOST_WIRES) {
                firstLevel[wireCount] = level;
                wireCount++;
            }
        }

        /** The set of wires that a gate looks at. */
        int looks(int g) {
            int wires = 1 << first[g];
            return kind[g] == Levels.INVERT ? wires : wires | 1 << second[g];
        }

        int driversOf(int w) {
            int count = 0;
            for (int g = 0; g < gateCount; g++) {
                if (target[g] == w) {
                    count++;
                }
            }
            return count;
        }

        int lookersAt(int w) {
            int count = 0;
            for (int g = 0; g < gateCount; g++) {
                if ((looks(g) >> w & 1) == 1) {
                    count++;
                }
            }
            return count;
        }
    }

    /** Holds the text and reads it into a plan, up to the first letter that has a fault. */
    private static final class Reader {
        static final int NO_FAULT = 0;
        private static final int MISPLACED = 1, OUT_OF_BOUNDS = 2, TOO_MANY = 3, LOOP = 4;
        private static final int MOST_LETTERS = 200;
        private static final int MOST_FIGURES = 2;

        private final int[] text = new int[MOST_LETTERS];
        int length;
        int faultPlace = NONE;
        private int faultNumber;
        private int place;
        private int numberPlace;

        int addLetter(int letter) {
            if (length >= MOST_LETTERS) {
                return FULL;
            }
            text[length] = letter;
            length++;
            return length;
        }

        void dropText() {
            length = 0;
        }

        /** Answers the fault's number. */
        int readInto(Plan plan) {
            plan.empty();
            faultNumber = NO_FAULT;
            faultPlace = NONE;
            place = 0;
            skipBlanks();
            for (int clauses = 0; clauses < MOST_LETTERS && place < length && faultNumber == NO_FAULT; clauses++) {
                readClause(plan);
                skipBlanks();
            }
            return faultNumber;
        }

        private void readClause(Plan plan) {
            if (letterHere() == 'w') {
                readWire(plan);
            } else if (letterHere() == 'g') {
                readGate(plan);
            } else {
                findFault(MISPLACED, place);
            }
        }

        private void readWire(Plan plan) {
            if (plan.wireCount >= MOST_WIRES) {
                findFault(TOO_MANY, place);
                return;
            }
            place++;
            int level = readNumber(MOST_LEVEL);
            readEnd();
            if (faultNumber == NO_FAULT) {
                plan.addWire(level);
            }
        }

        /** The gate counts only behind its ';': a text with a fault is not taken, so what it left is never seen. */
        private void readGate(Plan plan) {
            int g = plan.gateCount;
            if (g >= MOST_GATES) {
                findFault(TOO_MANY, place);
                return;
            }
            place++;
            int lastWire = plan.wireCount - 1;
            plan.kind[g] = readNumber(Levels.HOLD);
            plan.first[g] = readNumber(lastWire);
            plan.second[g] = readNumber(lastWire);
            plan.target[g] = readNumber(lastWire);
            plan.delay[g] = readNumber(MOST_DELAY);
            if (plan.delay[g] == 0 && (plan.looks(g) >> plan.target[g] & 1) == 1) {
                findFault(LOOP, numberPlace);
            }
            plan.mode[g] = readNumber(1);
            readEnd();
            if (faultNumber == NO_FAULT) {
                plan.gateCount++;
            }
        }

        /** A number of 0 .. most; 0 where there is a fault, so that it may be used as a wire. */
        private int readNumber(int most) {
            skipBlanks();
            numberPlace = place;
            if (!isFigure(letterHere())) {
                findFault(MISPLACED, place);
                return 0;
            }
            int value = 0;
            int figures = 0;
            while (place < length && isFigure(letterHere())) {
                value = figures < MOST_FIGURES ? value * 10 + letterHere() - '0' : value;
                figures++;
                place++;
            }
            if (figures > MOST_FIGURES || value > most) {
                findFault(OUT_OF_BOUNDS, numberPlace);
                return 0;
            }
            return value;
        }

        private void readEnd() {
            skipBlanks();
            if (letterHere() != ';') {
                findFault(MISPLACED, place);
            }
            place++;
        }

        private void skipBlanks() {
            while (place < length && letterHere() == ' ') {
                place++;
            }
        }

        /** NONE at the end, which is no letter. */
        private int letterHere() {
            return place >= 0 && place < length ? text[place] : NONE;
        }

        private static boolean isFigure(int letter) {
            return letter >= '0' && letter <= '9';
        }

        /** The text is read from its front, so the first fault found is the one to be told. */
        private void findFault(int number, int where) {
            if (faultNumber == NO_FAULT) {
                faultNumber = number;
                faultPlace = where;
            }
        }
    }

    /** All that changes as time goes on: what can be undone, kept and tried out. */
    private static final class Moment {
        private static final int MOST_WAITING = 8;
        private static final int WAVE_LENGTH = 8;
        private static final int MOST_CHANGES = 9999;
        private static final int MOST_CYCLES = 99999;
        private static final int ENDLESS_CYCLES = 40;
        /** Far above what a step can have: 39 cycles with a change, and one without for each set by hand. */
        private static final int CYCLES_OF_A_STEP = 1000;
        private static final int NEVER = 2147483647;

        int time;
        int cycles;
        boolean endless;
        int flickering;
        final int[] level = new int[MOST_WIRES];
        final int[] changes = new int[MOST_WIRES];
        final int[] lastChange = new int[MOST_WIRES];
        private final int[] waveEnd = new int[MOST_WIRES];
        private final int[] waveTime = new int[MOST_WIRES * WAVE_LENGTH];
        private final int[] waveLevel = new int[MOST_WIRES * WAVE_LENGTH];
        final int[] drive = new int[MOST_GATES];
        final int[] waiting = new int[MOST_GATES];
        private final int[] dueTime = new int[MOST_GATES * MOST_WAITING];
        private final int[] dueLevel = new int[MOST_GATES * MOST_WAITING];
        int handCount;
        private final int[] handTime = new int[MOST_WAITING];
        private final int[] handWire = new int[MOST_WAITING];
        private final int[] handLevel = new int[MOST_WAITING];

        void copyFrom(Moment other) {
            time = other.time;
            cycles = other.cycles;
            endless = other.endless;
            flickering = other.flickering;
            handCount = other.handCount;
            copyRow(other.level, level);
            copyRow(other.changes, changes);
            copyRow(other.lastChange, lastChange);
            copyRow(other.waveEnd, waveEnd);
            copyRow(other.waveTime, waveTime);
            copyRow(other.waveLevel, waveLevel);
            copyRow(other.drive, drive);
            copyRow(other.waiting, waiting);
            copyRow(other.dueTime, dueTime);
            copyRow(other.dueLevel, dueLevel);
            copyRow(other.handTime, handTime);
            copyRow(other.handWire, handWire);
            copyRow(other.handLevel, handLevel);
        }

        private static void copyRow(int[] from, int[] to) {
            System.arraycopy(from, 0, to, 0, Math.min(from.length, to.length));
        }

        void begin(Plan plan) {
            time = 0;
            cycles = 0;
            endless = false;
            flickering = 0;
            emptyQueues();
            for (int w = 0; w < MOST_WIRES; w++) {
                level[w] = plan.firstLevel[w];
                changes[w] = 0;
                lastChange[w] = NONE;
                waveEnd[w] = 0;
            }
            for (int g = 0; g < plan.gateCount; g++) {
                drive[g] = plan.firstLevel[plan.target[g]];
            }
            tellAll(plan);
        }

        // what is asked

        boolean isStill() {
            return earliest() == NEVER;
        }

        /** The least time of anything that waits. */
        private int earliest() {
            int least = handCount > 0 ? handTime[0] : NEVER;
            for (int g = 0; g < MOST_GATES; g++) {
                if (waiting[g] > 0) {
                    least = Math.min(least, dueTime[g * MOST_WAITING]);
                }
            }
            return least;
        }

        int outcomeOf(Plan plan, int g) {
            return Levels.outcome(plan.kind[g], level[plan.first[g]], level[plan.second[g]], drive[g]);
        }

        /** All that gates drive at a wire, joined, without one of them (NONE: with all). */
        int drivenLevel(Plan plan, int w, int without) {
            int joined = Levels.LOOSE;
            for (int g = 0; g < plan.gateCount; g++) {
                if (plan.target[g] == w && g != without) {
                    joined = Levels.join(joined, drive[g]);
                }
            }
            return joined;
        }

        int holdingGates(Plan plan) {
            int gates = 0;
            for (int g = 0; g < plan.gateCount; g++) {
                if (drive[g] == outcomeOf(plan, g)) {
                    gates |= 1 << g;
                }
            }
            return gates;
        }

        int changeTime(int w, int k) {
            return hasChange(w, k) ? waveTime[wavePlace(w, k)] : NONE;
        }

        int changeLevel(int w, int k) {
            return hasChange(w, k) ? waveLevel[wavePlace(w, k)] : NONE;
        }

        private boolean hasChange(int w, int k) {
            return k >= 0 && k < Math.min(changes[w], WAVE_LENGTH);
        }

        /** Each wire's wave goes round in its own part of the row. */
        private int wavePlace(int w, int k) {
            return w * WAVE_LENGTH + Math.floorMod(waveEnd[w] - 1 - k, WAVE_LENGTH);
        }

        int waitingTime(int g, int k) {
            return hasWaiting(g, k) ? dueTime[g * MOST_WAITING + k] : NONE;
        }

        int waitingLevel(int g, int k) {
            return hasWaiting(g, k) ? dueLevel[g * MOST_WAITING + k] : NONE;
        }

        private boolean hasWaiting(int g, int k) {
            return k >= 0 && k < waiting[g];
        }

        // what waits

        boolean handIsFull() {
            return handCount >= MOST_WAITING;
        }

        /** Behind all else by hand at that time, ahead of what is later. */
        void addByHand(int w, int newLevel, int when) {
            if (handIsFull()) {
                return;
            }
            int at = handCount;
            while (at > 0 && handTime[at - 1] > when) {
                handTime[at] = handTime[at - 1];
                handWire[at] = handWire[at - 1];
                handLevel[at] = handLevel[at - 1];
                at--;
            }
            handTime[at] = when;
            handWire[at] = w;
            handLevel[at] = newLevel;
            handCount++;
        }

        void tellAll(Plan plan) {
            for (int g = 0; g < plan.gateCount; g++) {
                tellGate(plan, g, outcomeOf(plan, g));
            }
        }

        private void tellLookers(Plan plan, int changed) {
            for (int g = 0; g < plan.gateCount; g++) {
                if ((plan.looks(g) & changed) != 0) {
                    tellGate(plan, g, outcomeOf(plan, g));
                }
            }
        }

        private void tellGate(Plan plan, int g, int newLevel) {
            int when = time + plan.delay[g];
            int row = g * MOST_WAITING;
            while (waiting[g] > 0 && dueTime[row + waiting[g] - 1] >= when) {
                waiting[g]--;
            }
            if (plan.mode[g] == 1) {
                dropFirst(g, waiting[g] - alikeAtEnd(g, newLevel));
            }
            if (waiting[g] >= MOST_WAITING) {
                dropFirst(g, 1);
            }
            dueTime[row + waiting[g]] = when;
            dueLevel[row + waiting[g]] = newLevel;
            waiting[g]++;
        }

        /** How many at a queue's end have this level, with no other between them. */
        private int alikeAtEnd(int g, int newLevel) {
            int row = g * MOST_WAITING;
            int alike = 0;
            while (alike < waiting[g] && dueLevel[row + waiting[g] - 1 - alike] == newLevel) {
                alike++;
            }
            return alike;
        }

        private void dropFirst(int g, int count) {
            int row = g * MOST_WAITING;
            int left = waiting[g] - count;
            for (int i = 0; i < left; i++) {
                dueTime[row + i] = dueTime[row + i + count];
                dueLevel[row + i] = dueLevel[row + i + count];
            }
            waiting[g] = left;
        }

        private void emptyQueues() {
            for (int g = 0; g < MOST_GATES; g++) {
                waiting[g] = 0;
            }
            handCount = 0;
        }

        // steps and cycles

        /** All steps up to a time; answers how many. Each has a time of its own, so they are no more than the times. */
        int advanceTo(Plan plan, int end) {
            int steps = 0;
            while (steps <= MOST_RUN && !endless && earliest() <= end) {
                advance(plan);
                steps++;
            }
            if (!endless) {
                time = end;
            }
            return steps;
        }

        /** A step; something must wait. */
        void advance(Plan plan) {
            time = Math.max(time, earliest());
            int stirring = 0;
            for (int i = 0; i < CYCLES_OF_A_STEP && !endless && earliest() <= time; i++) {
                if (makeCycle(plan)) {
                    stirring++;
                }
                if (stirring >= ENDLESS_CYCLES) {
                    endless = true;
                    emptyQueues();
                }
            }
        }

        /** Answers whether a wire changed. */
        private boolean makeCycle(Plan plan) {
            int driven = takeFromQueues(plan);
            int changed = takeByHand();
            for (int w = 0; w < plan.wireCount; w++) {
                if ((driven >> w & 1) == 1) {
                    changed |= changeWire(w, drivenLevel(plan, w, NONE));
                }
            }
            cycles = Math.min(cycles + 1, MOST_CYCLES);
            tellLookers(plan, changed);
            return changed != 0;
        }

        /** Gates take up what is due; answers the set of wires that they drive. */
        private int takeFromQueues(Plan plan) {
            int driven = 0;
            for (int g = 0; g < plan.gateCount; g++) {
                if (waiting[g] > 0 && dueTime[g * MOST_WAITING] <= time) {
                    drive[g] = dueLevel[g * MOST_WAITING];
                    dropFirst(g, 1);
                    driven |= 1 << plan.target[g];
                }
            }
            return driven;
        }

        /** Only one a cycle; answers the set of wires that changed. */
        private int takeByHand() {
            if (handCount == 0 || handTime[0] > time) {
                return 0;
            }
            int w = handWire[0];
            int newLevel = handLevel[0];
            handCount--;
            for (int i = 0; i < handCount; i++) {
                handTime[i] = handTime[i + 1];
                handWire[i] = handWire[i + 1];
                handLevel[i] = handLevel[i + 1];
            }
            return changeWire(w, newLevel);
        }

        /** Answers the set of this wire alone, or of none, if it is so already. */
        private int changeWire(int w, int newLevel) {
            if (level[w] == newLevel) {
                return 0;
            }
            if (lastChange[w] == time) {
                flickering |= 1 << w;
            }
            lastChange[w] = time;
            level[w] = newLevel;
            changes[w] = Math.min(changes[w] + 1, MOST_CHANGES);
            waveTime[w * WAVE_LENGTH + waveEnd[w]] = time;
            waveLevel[w * WAVE_LENGTH + waveEnd[w]] = newLevel;
            waveEnd[w] = (waveEnd[w] + 1) % WAVE_LENGTH;
            return 1 << w;
        }
    }

    /** The moments ahead of the latest deeds; they go round in a row. */
    private static final class Past {
        private final Moment[] row = new Moment[MOST_UNDONE];
        private int end;
        int count;

        Past() {
            for (int i = 0; i < MOST_UNDONE; i++) {
                row[i] = new Moment();
            }
        }

        void forget() {
            count = 0;
        }

        void remember(Moment moment) {
            Moment place = row[end];
            if (place != null) {
                place.copyFrom(moment);
            }
            end = (end + 1) % MOST_UNDONE;
            count = Math.min(count + 1, MOST_UNDONE);
        }

        void bringBack(int n, Moment moment) {
            end = Math.floorMod(end - n, MOST_UNDONE);
            count -= n;
            Moment place = row[end];
            if (place != null) {
                moment.copyFrom(place);
            }
        }
    }

    /** A moment to go on from, with the draws that would follow. */
    private static final class Image {
        private final Moment moment = new Moment();
        private int drawState;
        boolean isKept;

        void forget() {
            isKept = false;
        }

        void take(Moment from, Draws draws) {
            moment.copyFrom(from);
            drawState = draws.state;
            isKept = true;
        }

        void give(Moment to, Draws draws) {
            to.copyFrom(moment);
            draws.state = drawState;
        }
    }

    /** What wires should be. */
    private static final class Book {
        private static final int MOST_ENTRIES = 20;

        private final int[] entryWire = new int[MOST_ENTRIES];
        private final int[] entryLevel = new int[MOST_ENTRIES];
        int count;

        void empty() {
            count = 0;
        }

        int addEntry(int w, int level) {
            if (count >= MOST_ENTRIES) {
                return FULL;
            }
            entryWire[count] = w;
            entryLevel[count] = level;
            count++;
            return count;
        }

        int firstWrong(Plan plan, Moment moment) {
            for (int i = 0; i < count; i++) {
                int w = entryWire[i];
                if (!plan.hasWire(w) || moment.level[w] != entryLevel[i]) {
                    return i;
                }
            }
            return NONE;
        }
    }

    /** The seed and what is drawn from it. */
    private static final class Draws {
        private static final long FACTOR = 1103515245L, ADDEND = 12345L, MASK = 0x7fffffffL;
        private static final int DIVISOR = 65536;

        int state;

        int draw(int n) {
            state = (int) (state * FACTOR + ADDEND & MASK);
            return n > 0 ? state / DIVISOR % n : 0;
        }
    }
}
