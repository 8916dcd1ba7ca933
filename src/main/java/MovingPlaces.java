/**
 * Places within places that move, and the threads in them that move them.
 * The promises that the calls keep are numbered in the project's document.
 */
public final class MovingPlaces {
    public static final int UNKNOWN = -1, OUTSIDE = -2, STATE = -3, FULL = -4, NONE = -9;

    private static final int GROUND = 0;
    private static final int MOST_PLACES = 12;
    private static final int MOST_THREADS = 12;
    private static final int MOST_ACTS = 6;
    private static final int MOST_MESSAGES = 90;
    private static final int MOST_ROUNDS = 50;
    private static final int MOST_ROW = 3;
    private static final int NAMES = 6;

    private static final int IN = 1;
    private static final int OUT = 2;
    private static final int OPEN = 3;
    private static final int SAY = 4;
    private static final int HEAR = 5;
    private static final int WHAT_WAS_HEARD = 9;

    /** What an act's two digits are multiplied by, by how many acts come behind it. */
    private static final long[] WEIGHTS = {1L, 100L, 10000L, 1000000L, 100000000L, 10000000000L};

    private final World now = new World();
    private final World image = new World();
    private boolean hasImage = false;

    /** The world after one, two and three acts of a row that is only tried. */
    private final World[] tries = {new World(), new World(), new World()};
    private final int[] row = new int[MOST_ROW];

    public MovingPlaces() {
    }

    // ---- 1 places, threads

    public int place(int in, int name) {
        if (!now.isPlace(in) || !isName(name)) {
            return UNKNOWN;
        }
        return now.addPlace(in, name);
    }

    public int thread(int p, long acts) {
        if (!now.isPlace(p)) {
            return UNKNOWN;
        }
        int count = countActs(acts);
        if (count == 0) {
            return OUTSIDE;
        }
        return now.addThread(p, acts, count);
    }

    public int seal(int p, boolean is) {
        if (!now.isPlace(p)) {
            return UNKNOWN;
        }
        if (p == GROUND) {
            return STATE;
        }
        if (now.isSealed(p) == is) {
            return 0;
        }
        now.turnSeal(p);
        return 1;
    }

    public int message(int p, int name) {
        if (!now.isPlace(p) || !isName(name)) {
            return UNKNOWN;
        }
        // Acts may bring a place beyond the limit, which binds this call alone.
        if (now.messagesOf(p, name) >= MOST_MESSAGES) {
            return FULL;
        }
        now.addMessages(p, name, 1);
        return now.messagesOf(p, name);
    }

    public int ofPlace(int p, int what) {
        if (!now.isPlace(p)) {
            return UNKNOWN;
        }
        switch (what) {
            case 0:
                return now.nameOf(p);
            case 1:
                return now.placeAround(p);
            case 2:
                return now.isSealed(p) ? 1 : 0;
            case 3:
                return now.placesIn(p);
            case 4:
                return now.threadsIn(p);
            case 5:
                return now.depthOf(p);
            default:
                return what >= 10 && what < 10 + NAMES ? now.messagesOf(p, what - 10) : OUTSIDE;
        }
    }

    public int ofThread(int t, int what) {
        if (!now.isThread(t)) {
            return UNKNOWN;
        }
        switch (what) {
            case 0:
                return now.placeOfThread(t);
            case 1:
                return now.actsDone(t);
            case 2:
                return now.actsInAll(t);
            case 3:
                return now.heardBy(t);
            case 4:
                return now.isOver(t) ? NONE : now.actOf(t, now.actsDone(t));
            default:
                return OUTSIDE;
        }
    }

    public int within(int p, int q) {
        if (!now.isPlace(p) || !now.isPlace(q)) {
            return UNKNOWN;
        }
        return now.isWithin(p, q) ? 1 : 0;
    }

    // ---- 2 acts

    public int can() {
        return now.threadsThatCan();
    }

    public int act(int t) {
        if (!now.isThread(t)) {
            return UNKNOWN;
        }
        int kind = now.doNextAct(t);
        return kind == NONE ? STATE : kind;
    }

    public int rounds(int most) {
        if (most < 1 || most > MOST_ROUNDS) {
            return OUTSIDE;
        }
        int all = 0;
        for (int round = 0; round < most; round++) {
            int done = now.doRound();
            if (done == 0) {
                break;
            }
            all += done;
        }
        return all;
    }

    public int rows(int n) {
        if (n < 0 || n > MOST_ROW) {
            return OUTSIDE;
        }
        return countRows(now, 0, n);
    }

    public int soonest(int p, int q, int k) {
        if (!now.isPlace(p) || !now.isPlace(q)) {
            return UNKNOWN;
        }
        if (k < -1 || k >= MOST_ROW) {
            return OUTSIDE;
        }
        if (p == q) {
            return STATE;
        }
        for (int length = 0; length <= MOST_ROW; length++) {
            if (findRow(now, 0, length, p, q)) {
                return k == -1 ? length : threadInRow(k, length);
            }
        }
        return NONE;
    }

    // ---- 3 what may move

    public int said() {
        return now.namesThatMayBeSaid();
    }

    public int moves() {
        return now.namesThatMove();
    }

    public int keep() {
        image.become(now);
        hasImage = true;
        return 1;
    }

    public int restore() {
        if (!hasImage) {
            return STATE;
        }
        now.become(image);
        return 1;
    }

    public int many(int what) {
        switch (what) {
            case 0:
                return now.placesThatAre();
            case 1:
                return now.threadsInAll();
            case 2:
                return now.threadsOver();
            case 3:
                return now.placesInAll();
            case 4:
                return now.messagesInAll();
            case 5:
                return hasImage ? 1 : 0;
            default:
                return OUTSIDE;
        }
    }

    // ---- rows that are only tried

    /** How many rows bring 'length' acts in all, 'done' of which led to this world. */
    private int countRows(World world, int done, int length) {
        if (done >= length) {
            return 1;
        }
        // The last act of a row need not be done to be counted.
        if (done + 1 == length || done >= tries.length) {
            return Integer.bitCount(world.threadsThatCan());
        }
        World next = tries[done];
        int count = 0;
        for (int t = 0; t < world.threadsInAll(); t++) {
            if (world.aimOf(t) != NONE) {
                next.become(world);
                next.doNextAct(t);
                count += countRows(next, done + 1, length);
            }
        }
        return count;
    }

    private int threadInRow(int k, int length) {
        return k >= 0 && k < length && k < row.length ? row[k] : NONE;
    }

    /**
     * Whether p comes to be within q by 'length' acts, the first 'done' of which led to this world;
     * the first row that brings it then stands in 'row'.
     */
    private boolean findRow(World world, int done, int length, int p, int q) {
        if (done >= length || done >= tries.length || done >= row.length) {
            return world.isWithin(p, q);
        }
        World next = tries[done];
        for (int t = 0; t < world.threadsInAll(); t++) {
            if (world.aimOf(t) != NONE) {
                next.become(world);
                next.doNextAct(t);
                row[done] = t;
                if (findRow(next, done + 1, length, p, q)) {
                    return true;
                }
            }
        }
        return false;
    }

    // ---- numbers that are told

    private static boolean isName(int name) {
        return name >= 0 && name < NAMES;
    }

    /** How many acts the number tells; 0 if it does not tell acts. */
    private static int countActs(long acts) {
        if (acts <= 0) {
            return 0;
        }
        long rest = acts;
        for (int count = 1; count <= MOST_ACTS; count++) {
            if (!isAct((int) (rest % 100))) {
                return 0;
            }
            rest = rest / 100;
            if (rest == 0) {
                return count;
            }
        }
        return 0;
    }

    private static boolean isAct(int act) {
        int kind = act / 10;
        int digit = act % 10;
        if (kind == HEAR) {
            return digit == 0;
        }
        return kind >= IN && kind <= SAY && (isName(digit) || digit == WHAT_WAS_HEARD);
    }

    /** All places and threads as they are at one time. */
    private static final class World {
        private int placeCount = 1;
        private int goneSet = 0;
        private int sealedSet = 0;
        private final int[] names = new int[MOST_PLACES];
        /** The place in which a place is; NONE for the ground and for those that are gone. */
        private final int[] around = new int[MOST_PLACES];
        /** How many messages of name n a place p has stands at p * NAMES + n. */
        private final int[] messages = new int[MOST_PLACES * NAMES];

        private int threadCount = 0;
        private final int[] spots = new int[MOST_THREADS];
        private final long[] acts = new long[MOST_THREADS];
        private final int[] actCounts = new int[MOST_THREADS];
        private final int[] doneCounts = new int[MOST_THREADS];
        private final int[] heard = new int[MOST_THREADS];

        World() {
            names[GROUND] = NONE;
            around[GROUND] = NONE;
        }

        void become(World other) {
            placeCount = other.placeCount;
            goneSet = other.goneSet;
            sealedSet = other.sealedSet;
            System.arraycopy(other.names, 0, names, 0, MOST_PLACES);
            System.arraycopy(other.around, 0, around, 0, MOST_PLACES);
            System.arraycopy(other.messages, 0, messages, 0, MOST_PLACES * NAMES);
            threadCount = other.threadCount;
            System.arraycopy(other.spots, 0, spots, 0, MOST_THREADS);
            System.arraycopy(other.acts, 0, acts, 0, MOST_THREADS);
            System.arraycopy(other.actCounts, 0, actCounts, 0, MOST_THREADS);
            System.arraycopy(other.doneCounts, 0, doneCounts, 0, MOST_THREADS);
            System.arraycopy(other.heard, 0, heard, 0, MOST_THREADS);
        }

        // -- places

        boolean isPlace(int p) {
            return p >= 0 && p < placeCount && (goneSet >> p & 1) == 0;
        }

        int addPlace(int in, int name) {
            if (placeCount >= MOST_PLACES) {
                return FULL;
            }
            int p = placeCount;
            placeCount = p + 1;
            names[p] = name;
            around[p] = in;
            sealedSet = sealedSet & ~(1 << p);
            for (int n = 0; n < NAMES; n++) {
                messages[p * NAMES + n] = 0;
            }
            return p;
        }

        int nameOf(int p) {
            return isPlace(p) ? names[p] : NONE;
        }

        int placeAround(int p) {
            return isPlace(p) ? around[p] : NONE;
        }

        boolean isSealed(int p) {
            return isPlace(p) && (sealedSet >> p & 1) == 1;
        }

        void turnSeal(int p) {
            if (isPlace(p)) {
                sealedSet = sealedSet ^ 1 << p;
            }
        }

        int messagesOf(int p, int name) {
            return isPlace(p) && isName(name) ? messages[p * NAMES + name] : 0;
        }

        void addMessages(int p, int name, int more) {
            if (isPlace(p) && isName(name)) {
                messages[p * NAMES + name] += more;
            }
        }

        int placesIn(int p) {
            int set = 0;
            for (int q = 0; q < placeCount; q++) {
                if (around[q] == p) {
                    set = set | 1 << q;
                }
            }
            return set;
        }

        int threadsIn(int p) {
            int set = 0;
            for (int t = 0; t < threadCount; t++) {
                if (spots[t] == p) {
                    set = set | 1 << t;
                }
            }
            return set;
        }

        int depthOf(int p) {
            int depth = 0;
            int outer = placeAround(p);
            while (outer != NONE && depth < MOST_PLACES) {
                depth++;
                outer = placeAround(outer);
            }
            return depth;
        }

        /** A place that is gone is within none, and none is within it. */
        boolean isWithin(int p, int q) {
            int outer = placeAround(p);
            for (int step = 0; step < MOST_PLACES && outer != NONE; step++) {
                if (outer == q) {
                    return true;
                }
                outer = placeAround(outer);
            }
            return false;
        }

        int placesThatAre() {
            return placeCount - Integer.bitCount(goneSet);
        }

        int placesInAll() {
            return placeCount;
        }

        int messagesInAll() {
            int all = 0;
            for (int p = 0; p < placeCount; p++) {
                for (int n = 0; n < NAMES; n++) {
                    all += messagesOf(p, n);
                }
            }
            return all;
        }

        // -- threads

        boolean isThread(int t) {
            return t >= 0 && t < threadCount;
        }

        int addThread(int p, long itsActs, int count) {
            if (threadCount >= MOST_THREADS) {
                return FULL;
            }
            int t = threadCount;
            threadCount = t + 1;
            spots[t] = p;
            acts[t] = itsActs;
            actCounts[t] = count;
            doneCounts[t] = 0;
            heard[t] = NONE;
            return t;
        }

        int placeOfThread(int t) {
            return isThread(t) ? spots[t] : NONE;
        }

        int actsDone(int t) {
            return isThread(t) ? doneCounts[t] : 0;
        }

        int actsInAll(int t) {
            return isThread(t) ? actCounts[t] : 0;
        }

        int heardBy(int t) {
            return isThread(t) ? heard[t] : NONE;
        }

        boolean isOver(int t) {
            return actsDone(t) >= actsInAll(t);
        }

        /** The i-th act (from 0 on) of a thread, as two digits; 0 if there is none. */
        int actOf(int t, int i) {
            int behind = actsInAll(t) - 1 - i;
            if (!isThread(t) || behind < 0 || behind >= WEIGHTS.length) {
                return 0;
            }
            return (int) (acts[t] / WEIGHTS[behind] % 100);
        }

        int threadsInAll() {
            return threadCount;
        }

        int threadsOver() {
            int count = 0;
            for (int t = 0; t < threadCount; t++) {
                if (isOver(t)) {
                    count++;
                }
            }
            return count;
        }

        // -- acts

        int threadsThatCan() {
            int set = 0;
            for (int t = 0; t < threadCount; t++) {
                if (aimOf(t) != NONE) {
                    set = set | 1 << t;
                }
            }
            return set;
        }

        /** What a thread's next act would touch, a place or a message's name; NONE if it can't be done. */
        int aimOf(int t) {
            if (!isThread(t) || isOver(t)) {
                return NONE;
            }
            int p = spots[t];
            int act = actOf(t, doneCounts[t]);
            int name = act % 10 == WHAT_WAS_HEARD ? heard[t] : act % 10;
            if (name == NONE) {
                return NONE;
            }
            switch (act / 10) {
                case IN:
                    return p == GROUND ? NONE : leastUnsealed(placeAround(p), name, p);
                case OUT:
                    return unsealedAround(p, name);
                case OPEN:
                    return leastUnsealed(p, name, NONE);
                case SAY:
                    return name;
                case HEAR:
                    return leastMessage(p);
                default:
                    return NONE;
            }
        }

        /** The place of least number in p that is not sealed, has the name, and is another one. */
        private int leastUnsealed(int p, int name, int other) {
            for (int q = 0; q < placeCount; q++) {
                boolean isSealed = (sealedSet >> q & 1) == 1;
                if (q != other && around[q] == p && names[q] == name && !isSealed) {
                    return q;
                }
            }
            return NONE;
        }

        private int unsealedAround(int p, int name) {
            int outer = placeAround(p);
            return nameOf(outer) == name && !isSealed(outer) ? outer : NONE;
        }

        private int leastMessage(int p) {
            for (int n = 0; n < NAMES; n++) {
                if (messagesOf(p, n) > 0) {
                    return n;
                }
            }
            return NONE;
        }

        /** The kind of the act that was done; NONE if it can't be. */
        int doNextAct(int t) {
            int aim = aimOf(t);
            if (!isThread(t) || aim == NONE) {
                return NONE;
            }
            int kind = actOf(t, doneCounts[t]) / 10;
            int p = spots[t];
            switch (kind) {
                case IN:
                    putInto(p, aim);
                    break;
                case OUT:
                    putInto(p, placeAround(aim));
                    break;
                case OPEN:
                    dissolve(aim, p);
                    break;
                case SAY:
                    addMessages(p, aim, 1);
                    break;
                default:
                    addMessages(p, aim, -1);
                    heard[t] = aim;
                    break;
            }
            doneCounts[t]++;
            return kind;
        }

        private void putInto(int p, int outer) {
            if (isPlace(p) && isPlace(outer)) {
                around[p] = outer;
            }
        }

        /** The place q is gone; all that was in it is in p then. */
        private void dissolve(int q, int p) {
            if (!isPlace(q)) {
                return;
            }
            for (int n = 0; n < NAMES; n++) {
                addMessages(p, n, messagesOf(q, n));
            }
            for (int inner = 0; inner < placeCount; inner++) {
                if (around[inner] == q) {
                    around[inner] = p;
                }
            }
            for (int t = 0; t < threadCount; t++) {
                if (spots[t] == q) {
                    spots[t] = p;
                }
            }
            goneSet = goneSet | 1 << q;
            around[q] = NONE;
        }

        int doRound() {
            int done = 0;
            for (int t = 0; t < threadCount; t++) {
                if (doNextAct(t) != NONE) {
                    done++;
                }
            }
            return done;
        }

        // -- what may be said, what moves

        int namesThatMayBeSaid() {
            int set = 0;
            for (int n = 0; n < NAMES; n++) {
                if (hasMessageAnywhere(n)) {
                    set = set | 1 << n;
                }
            }
            for (int t = 0; t < threadCount; t++) {
                set = set | namesFromThread(t);
            }
            return set;
        }

        private boolean hasMessageAnywhere(int name) {
            for (int p = 0; p < placeCount; p++) {
                if (messagesOf(p, name) > 0) {
                    return true;
                }
            }
            return false;
        }

        /** What a thread heard and will yet say by name; what it will say of 9 comes from elsewhere. */
        private int namesFromThread(int t) {
            int set = isName(heardBy(t)) ? 1 << heardBy(t) : 0;
            for (int i = actsDone(t); i < actsInAll(t); i++) {
                int act = actOf(t, i);
                if (act / 10 == SAY && isName(act % 10)) {
                    set = set | 1 << act % 10;
                }
            }
            return set;
        }

        int namesThatMove() {
            int sayable = namesThatMayBeSaid();
            int moving = 0;
            // A round that finds no new name is followed by none that does, so six rounds are enough.
            for (int round = 0; round < NAMES; round++) {
                moving = moving | namesMovedFrom(moving, sayable);
            }
            return moving;
        }

        /** The names that move if those of the set 'moving' do. */
        private int namesMovedFrom(int moving, int sayable) {
            int set = 0;
            for (int t = 0; t < threadCount; t++) {
                int name = nameOf(spots[t]);
                if (isName(name) && bringsMotion(t, moving, sayable)) {
                    set = set | 1 << name;
                }
            }
            return set;
        }

        private boolean bringsMotion(int t, int moving, int sayable) {
            for (int i = actsDone(t); i < actsInAll(t); i++) {
                int act = actOf(t, i);
                int kind = act / 10;
                if (kind == IN || kind == OUT) {
                    return true;
                }
                int opened = act % 10 == WHAT_WAS_HEARD ? sayable : 1 << act % 10;
                if (kind == OPEN && (opened & moving) != 0) {
                    return true;
                }
            }
            return false;
        }
    }
}
