import java.util.function.IntSupplier;
import java.util.function.IntUnaryOperator;

/** For each promise of the document ordinary inputs, its edges, and wrong inputs, worked out by hand. */
public final class PromisesTest {
    private static final int UNKNOWN = -1, OUTSIDE = -2, STATE = -3, FULL = -4, NONE = -9;
    private static final int[] WRONG_NUMBERS = {Integer.MIN_VALUE, -10, -9, -1, 12, 13, 31, 32, 64, Integer.MAX_VALUE};

    private static int promise = 0;
    private static int passed = 0;
    private static int failed = 0;

    public static void main(String[] args) {
        aNewObject();
        place();
        thread();
        threadNumbers();
        seal();
        message();
        ofPlace();
        ofThread();
        within();
        can();
        actIn();
        actOut();
        actOpen();
        actSayAndHear();
        rounds();
        rows();
        soonest();
        soonestOfGone();
        said();
        moves();
        keepAndRestore();
        imageHoldsAll();
        many();
        refusalsChangeNothing();
        System.out.println(passed + " passed, " + failed + " failed");
        if (failed != 0) {
            System.exit(1);
        }
    }

    private static void due(String call, int got, int want) {
        if (got == want) {
            passed++;
        } else {
            failed++;
            System.out.println("promise " + promise + ": " + call + " answered " + got + ", due is " + want);
        }
    }

    private static void dueForWrong(String call, IntUnaryOperator answer, int want) {
        for (int number : WRONG_NUMBERS) {
            due(call + " of " + number, answer.applyAsInt(number), want);
        }
    }

    private static int set(int... numbers) {
        int set = 0;
        for (int number : numbers) {
            set |= 1 << number;
        }
        return set;
    }

    private static int times(int n, IntSupplier call) {
        int last = 0;
        for (int i = 0; i < n; i++) {
            last = call.getAsInt();
        }
        return last;
    }

    private static void aNewObject() {
        promise = 1;
        MovingPlaces x = new MovingPlaces();
        due("places", x.many(0), 1);
        due("threads", x.many(1), 0);
        due("over", x.many(2), 0);
        due("came", x.many(3), 1);
        due("messages", x.many(4), 0);
        due("image", x.many(5), 0);
        due("restore", x.restore(), STATE);
        due("name of the ground", x.ofPlace(0, 0), NONE);
        due("around the ground", x.ofPlace(0, 1), NONE);
        due("seal of the ground", x.ofPlace(0, 2), 0);
        due("in the ground", x.ofPlace(0, 3), 0);
        due("threads in the ground", x.ofPlace(0, 4), 0);
        due("depth of the ground", x.ofPlace(0, 5), 0);
        for (int n = 0; n < 6; n++) {
            due("messages of the ground", x.ofPlace(0, 10 + n), 0);
        }
        due("can", x.can(), 0);
        due("rounds", x.rounds(50), 0);
        due("rows(0)", x.rows(0), 1);
        due("rows(3)", x.rows(3), 0);
        due("said", x.said(), 0);
        due("moves", x.moves(), 0);
        MovingPlaces y = new MovingPlaces();
        x.place(0, 0);
        x.thread(0, 40L);
        x.keep();
        due("objects share no places", y.many(3), 1);
        due("objects share no threads", y.many(1), 0);
        due("objects share no image", y.many(5), 0);
    }

    private static void place() {
        promise = 2;
        MovingPlaces x = new MovingPlaces();
        due("first", x.place(0, 5), 1);
        due("second", x.place(1, 0), 2);
        due("same name again", x.place(1, 0), 3);
        due("its name", x.ofPlace(2, 0), 0);
        due("in which", x.ofPlace(2, 1), 1);
        due("not sealed at first", x.ofPlace(2, 2), 0);
        due("no such place", x.place(4, 0), UNKNOWN);
        due("name 6", x.place(0, 6), UNKNOWN);
        due("name -1", x.place(0, -1), UNKNOWN);
        due("name 9", x.place(0, 9), UNKNOWN);
        dueForWrong("in", in -> x.place(in, 0), UNKNOWN);
        dueForWrong("name", name -> x.place(0, name), UNKNOWN);
        x.thread(1, 30L);
        x.act(0);
        due("a gone place", x.place(2, 0), UNKNOWN);
        for (int p = 4; p < 12; p++) {
            due("up to twelve, gone ones too", x.place(p - 1, p % 6), p);
        }
        due("twelve are there", x.place(0, 0), FULL);
        due("full, no such place", x.place(12, 0), UNKNOWN);
        due("full, a gone place", x.place(2, 0), UNKNOWN);
        due("full, no such name", x.place(0, 6), UNKNOWN);
        due("not gone", x.many(0), 11);
        due("came", x.many(3), 12);
    }

    private static void thread() {
        promise = 3;
        MovingPlaces x = new MovingPlaces();
        x.place(0, 0);
        due("first", x.thread(1, 10L), 0);
        due("six acts", x.thread(0, 152535455049L), 1);
        due("how many", x.ofThread(1, 2), 6);
        due("the first is the highest", x.ofThread(1, 4), 15);
        due("where", x.ofThread(0, 0), 1);
        due("heard nothing", x.ofThread(0, 3), NONE);
        due("none done", x.ofThread(1, 1), 0);
        due("no such place", x.thread(2, 10L), UNKNOWN);
        due("no such place, acts not as told", x.thread(2, 0L), UNKNOWN);
        dueForWrong("place", p -> x.thread(p, 10L), UNKNOWN);
        for (int t = 2; t < 12; t++) {
            due("up to twelve", x.thread(0, 50L), t);
        }
        due("twelve are there", x.thread(0, 50L), FULL);
        due("full, acts not as told", x.thread(0, 51L), OUTSIDE);
        due("full, no such place", x.thread(2, 50L), UNKNOWN);
        MovingPlaces y = new MovingPlaces();
        y.place(0, 0);
        y.thread(0, 30L);
        y.act(0);
        due("a gone place", y.thread(1, 40L), UNKNOWN);
        due("a thread that is over counts", times(11, () -> y.thread(0, 40L)), 11);
        due("and then it's full", y.thread(0, 40L), FULL);
    }

    private static void threadNumbers() {
        promise = 3;
        for (int act = -120; act < 100; act++) {
            int kind = act / 10;
            int digit = act % 10;
            boolean named = kind >= 1 && kind <= 4 && (digit <= 5 || digit == 9);
            boolean good = act > 0 && (named || act == 50);
            due("act " + act, new MovingPlaces().thread(0, act), good ? 0 : OUTSIDE);
            if (act > 0) {
                due("act 10, " + act, new MovingPlaces().thread(0, 1000L + act), good ? 0 : OUTSIDE);
                due("act " + act + ", 50", new MovingPlaces().thread(0, act * 100L + 50L), good ? 0 : OUTSIDE);
                due("five behind " + act, new MovingPlaces().thread(0, act * 10000000000L + 4040404040L), good ? 0 : OUTSIDE);
            }
        }
        long[] wrong = {0L, 1L, 100L, 101L, 110L, 512L, 1100L, 10000L, 1010101010101L, 10101010101010L,
            -10L, -1010L, -50L, Long.MIN_VALUE, Long.MAX_VALUE, 4294967306L, 1010101010101010101L};
        for (long acts : wrong) {
            due("acts " + acts, new MovingPlaces().thread(0, acts), OUTSIDE);
        }
    }

    private static void seal() {
        promise = 4;
        MovingPlaces x = new MovingPlaces();
        x.place(0, 0);
        x.place(0, 0);
        due("it was so", x.seal(1, false), 0);
        due("seal", x.seal(1, true), 1);
        due("again", x.seal(1, true), 0);
        due("sealed", x.ofPlace(1, 2), 1);
        due("the other one is not", x.ofPlace(2, 2), 0);
        due("off", x.seal(1, false), 1);
        due("not sealed", x.ofPlace(1, 2), 0);
        due("the ground", x.seal(0, true), STATE);
        due("the ground, not", x.seal(0, false), STATE);
        due("the ground is not", x.ofPlace(0, 2), 0);
        due("no such place", x.seal(3, true), UNKNOWN);
        dueForWrong("place", p -> x.seal(p, true), UNKNOWN);
        x.thread(0, 30L);
        x.act(0);
        due("a gone place", x.seal(1, true), UNKNOWN);
    }

    private static void message() {
        promise = 5;
        MovingPlaces x = new MovingPlaces();
        x.place(0, 4);
        due("first", x.message(1, 5), 1);
        due("second", x.message(1, 5), 2);
        due("another name", x.message(1, 0), 1);
        due("another place", x.message(0, 5), 1);
        due("no such place", x.message(2, 0), UNKNOWN);
        dueForWrong("place", p -> x.message(p, 0), UNKNOWN);
        dueForWrong("name", name -> x.message(0, name), UNKNOWN);
        due("name 6", x.message(0, 6), UNKNOWN);
        due("ninety", times(88, () -> x.message(1, 5)), 90);
        due("full", x.message(1, 5), FULL);
        due("still ninety", x.ofPlace(1, 15), 90);
        due("full, no such name", x.message(1, 6), UNKNOWN);
        due("another name is not full", x.message(1, 0), 2);
        x.thread(1, 45L);
        due("an act says one more", x.act(0), 4);
        due("ninety-one", x.ofPlace(1, 15), 91);
        due("still full", x.message(1, 5), FULL);
        x.thread(0, 34L);
        due("opened", x.act(1), 3);
        due("all are there", x.ofPlace(0, 15), 92);
        due("full by opening", x.message(0, 5), FULL);
        due("a gone place", x.message(1, 1), UNKNOWN);
    }

    private static void ofPlace() {
        promise = 6;
        MovingPlaces x = new MovingPlaces();
        x.place(0, 3);
        x.place(1, 5);
        x.place(1, 0);
        x.place(3, 3);
        x.thread(1, 40L);
        x.thread(4, 40L);
        x.thread(1, 40L);
        x.message(1, 0);
        x.message(1, 5);
        x.message(1, 5);
        x.seal(3, true);
        due("name", x.ofPlace(1, 0), 3);
        due("in", x.ofPlace(1, 1), 0);
        due("in", x.ofPlace(4, 1), 3);
        due("sealed", x.ofPlace(3, 2), 1);
        due("not sealed", x.ofPlace(1, 2), 0);
        due("places in it, at once", x.ofPlace(1, 3), set(2, 3));
        due("places in the ground", x.ofPlace(0, 3), set(1));
        due("threads in it, at once", x.ofPlace(1, 4), set(0, 2));
        due("threads in the ground", x.ofPlace(0, 4), 0);
        due("depth", x.ofPlace(1, 5), 1);
        due("depth", x.ofPlace(4, 5), 3);
        due("messages 0", x.ofPlace(1, 10), 1);
        due("messages 1", x.ofPlace(1, 11), 0);
        due("messages 5", x.ofPlace(1, 15), 2);
        due("messages of the place before", x.ofPlace(0, 15), 0);
        for (int what : new int[] {-9, -1, 6, 7, 8, 9, 16, 17, 100, Integer.MIN_VALUE, Integer.MAX_VALUE}) {
            due("what " + what, x.ofPlace(1, what), OUTSIDE);
            due("what " + what + " of none", x.ofPlace(5, what), UNKNOWN);
        }
        dueForWrong("place", p -> x.ofPlace(p, 0), UNKNOWN);
        due("no such place", x.ofPlace(5, 1), UNKNOWN);
        x.thread(1, 35L);
        x.act(3);
        due("a gone place", x.ofPlace(2, 0), UNKNOWN);
        due("not there any more", x.ofPlace(1, 3), set(3));
    }

    private static void ofThread() {
        promise = 7;
        MovingPlaces x = new MovingPlaces();
        x.place(0, 3);
        x.message(1, 4);
        x.thread(1, 504942L);
        due("where", x.ofThread(0, 0), 1);
        due("done", x.ofThread(0, 1), 0);
        due("in all", x.ofThread(0, 2), 3);
        due("heard", x.ofThread(0, 3), NONE);
        due("next", x.ofThread(0, 4), 50);
        x.act(0);
        due("done", x.ofThread(0, 1), 1);
        due("heard", x.ofThread(0, 3), 4);
        due("next, the digit as told", x.ofThread(0, 4), 49);
        x.act(0);
        due("next", x.ofThread(0, 4), 42);
        x.act(0);
        due("done", x.ofThread(0, 1), 3);
        due("in all", x.ofThread(0, 2), 3);
        due("over", x.ofThread(0, 4), NONE);
        due("still heard", x.ofThread(0, 3), 4);
        for (int what : new int[] {-9, -1, 5, 6, 10, Integer.MIN_VALUE, Integer.MAX_VALUE}) {
            due("what " + what, x.ofThread(0, what), OUTSIDE);
            due("what " + what + " of none", x.ofThread(1, what), UNKNOWN);
        }
        due("no such thread", x.ofThread(1, 0), UNKNOWN);
        dueForWrong("thread", t -> x.ofThread(t, 0), UNKNOWN);
        x.thread(0, 33L);
        x.act(1);
        due("in the place around then", x.ofThread(0, 0), 0);
    }

    private static void within() {
        promise = 8;
        MovingPlaces x = new MovingPlaces();
        x.place(0, 0);
        x.place(1, 1);
        x.place(2, 2);
        x.place(0, 3);
        due("at once", x.within(2, 1), 1);
        due("deeper", x.within(3, 1), 1);
        due("the ground", x.within(3, 0), 1);
        due("the other way", x.within(1, 3), 0);
        due("the ground in one", x.within(0, 3), 0);
        due("beside", x.within(4, 1), 0);
        due("itself", x.within(3, 3), 0);
        due("the ground itself", x.within(0, 0), 0);
        due("no such p", x.within(5, 0), UNKNOWN);
        due("no such q", x.within(0, 5), UNKNOWN);
        dueForWrong("p", p -> x.within(p, 0), UNKNOWN);
        dueForWrong("q", q -> x.within(0, q), UNKNOWN);
        x.thread(1, 31L);
        x.act(0);
        due("gone p", x.within(2, 0), UNKNOWN);
        due("gone q", x.within(3, 2), UNKNOWN);
        due("still within", x.within(3, 1), 1);
    }

    private static void can() {
        promise = 9;
        MovingPlaces x = new MovingPlaces();
        x.place(0, 0);
        x.place(1, 1);
        x.place(1, 2);
        x.thread(2, 12L);
        x.thread(2, 20L);
        x.thread(1, 31L);
        x.thread(1, 4550L);
        x.thread(1, 50L);
        x.thread(1, 49L);
        x.thread(0, 19L);
        x.thread(0, 10L);
        x.thread(0, 20L);
        x.thread(1, 11L);
        due("what can", x.can(), set(0, 1, 2, 3));
        x.act(3);
        due("one can hear, the other too", x.can(), set(0, 1, 2, 3, 4));
        x.act(3);
        due("it was heard", x.can(), set(0, 1, 2));
        due("it is over", x.ofThread(3, 4), NONE);
        x.seal(1, true);
        due("none comes out of a sealed one", x.can(), set(0, 2));
        x.seal(3, true);
        due("none comes into a sealed one", x.can(), set(2));
        x.seal(2, true);
        due("none opens a sealed one", x.can(), 0);
        x.seal(1, false);
        due("a sealed one itself comes out", x.can(), set(1));
    }

    private static void actIn() {
        promise = 10;
        MovingPlaces x = new MovingPlaces();
        x.place(0, 1);
        x.place(0, 1);
        x.place(0, 1);
        x.place(0, 0);
        x.thread(2, 1111L);
        x.thread(1, 10L);
        x.thread(0, 11L);
        x.thread(4, 10L);
        due("into the least, not itself", x.act(0), 1);
        due("it is in it", x.ofPlace(2, 1), 1);
        due("none is beside it now", x.act(0), STATE);
        due("the ground goes nowhere", x.act(2), STATE);
        due("none but itself has that name", x.act(3), STATE);
        x.seal(4, true);
        due("into a sealed one", x.act(1), STATE);
        x.seal(4, false);
        x.seal(1, true);
        due("a sealed one goes in itself", x.act(1), 1);
        due("and all within it", x.within(2, 4), 1);
        due("over", x.act(1), STATE);
        due("no such thread", x.act(4), UNKNOWN);
        dueForWrong("thread", x::act, UNKNOWN);
        MovingPlaces y = new MovingPlaces();
        y.place(0, 1);
        y.place(0, 1);
        y.place(0, 2);
        y.thread(3, 11L);
        y.seal(1, true);
        due("the least that is not sealed", y.act(0), 1);
        due("it is there", y.ofPlace(3, 1), 2);
        MovingPlaces z = new MovingPlaces();
        z.place(0, 1);
        z.place(1, 2);
        z.place(0, 3);
        z.thread(3, 12L);
        due("not into one that is within one beside", z.act(0), STATE);
        z.thread(2, 11L);
        due("not into the one around", z.act(1), STATE);
    }

    private static void actOut() {
        promise = 10;
        MovingPlaces x = new MovingPlaces();
        x.place(0, 0);
        x.place(1, 1);
        x.place(2, 2);
        x.thread(3, 212020L);
        x.thread(1, 20L);
        x.thread(0, 20L);
        due("out", x.act(0), 2);
        due("in the next one", x.ofPlace(3, 1), 1);
        due("its thread is in it", x.ofThread(0, 0), 3);
        x.seal(1, true);
        due("not out of a sealed one", x.act(0), STATE);
        x.seal(1, false);
        x.seal(3, true);
        due("a sealed one goes out itself", x.act(0), 2);
        due("in the ground", x.ofPlace(3, 1), 0);
        due("the ground has no name", x.act(0), STATE);
        due("nor by its own name", x.act(1), STATE);
        due("the ground goes nowhere", x.act(2), STATE);
        x.thread(2, 21L);
        due("the one around has another name", x.act(3), STATE);
    }

    private static void actOpen() {
        promise = 10;
        MovingPlaces x = new MovingPlaces();
        x.place(0, 0);
        x.place(1, 1);
        x.place(1, 1);
        x.place(2, 2);
        x.place(4, 1);
        x.thread(1, 3131L);
        x.thread(2, 42L);
        x.thread(4, 43L);
        x.thread(2, 40L);
        x.message(1, 5);
        x.message(2, 5);
        x.message(2, 5);
        x.message(2, 0);
        x.message(3, 4);
        x.act(3);
        due("open", x.act(0), 3);
        due("the least is gone", x.ofPlace(2, 0), UNKNOWN);
        due("what was in it is in the place", x.ofPlace(1, 3), set(3, 4));
        due("its threads, too, also one over", x.ofPlace(1, 4), set(0, 1, 3));
        due("not those within", x.ofThread(2, 0), 4);
        due("its messages are more", x.ofPlace(1, 15), 3);
        due("its messages are more", x.ofPlace(1, 10), 2);
        due("not those of others", x.ofPlace(1, 14), 0);
        due("the one within it is still in its own", x.ofPlace(5, 1), 4);
        due("depth is less", x.ofPlace(5, 5), 3);
        x.seal(3, true);
        due("a sealed one", x.act(0), STATE);
        x.seal(3, false);
        due("the other one", x.act(0), 3);
        due("none of the name within counts", x.ofPlace(5, 0), 1);
        x.thread(0, 31L);
        due("only at once within", x.act(4), STATE);
        x.thread(0, 30L);
        due("the ground opens", x.act(5), 3);
        due("threads come to the ground", x.ofPlace(0, 4), set(0, 1, 3, 4, 5));
        due("messages come to the ground", x.ofPlace(0, 15), 3);
        MovingPlaces y = new MovingPlaces();
        y.place(0, 0);
        y.place(0, 0);
        y.thread(1, 30L);
        due("not one beside, nor itself", y.act(0), STATE);
        y.thread(0, 30L);
        y.seal(1, true);
        due("open the least that is not sealed", y.act(1), 3);
        due("which is the other", y.many(0), 2);
        due("the sealed one stays", y.ofPlace(1, 2), 1);
    }

    private static void actSayAndHear() {
        promise = 10;
        MovingPlaces x = new MovingPlaces();
        x.place(0, 0);
        x.place(0, 4);
        x.thread(1, 4550491950L);
        x.thread(1, 49L);
        x.thread(0, 50L);
        due("say", x.act(0), 4);
        due("there is one", x.ofPlace(1, 15), 1);
        due("another thread heard nothing", x.act(1), STATE);
        due("nor is one in the ground", x.act(2), STATE);
        x.message(1, 4);
        due("hear", x.act(0), 5);
        due("the least name", x.ofThread(0, 3), 4);
        due("one fewer", x.ofPlace(1, 14), 0);
        due("the other stays", x.ofPlace(1, 15), 1);
        due("say what was heard", x.act(0), 4);
        due("one more", x.ofPlace(1, 14), 1);
        due("go into what was heard", x.act(0), 1);
        due("it is there", x.ofPlace(1, 1), 2);
        x.message(1, 0);
        due("name 0 is a name", x.act(0), 5);
        due("heard another then", x.ofThread(0, 3), 0);
        due("over", x.act(0), STATE);
        MovingPlaces y = new MovingPlaces();
        y.place(0, 0);
        y.place(1, 2);
        y.place(2, 0);
        y.thread(2, 502939L);
        y.message(2, 0);
        due("hear", y.act(0), 5);
        due("out of what was heard", y.act(0), 2);
        due("open what was heard", y.act(0), 3);
        due("it is gone", y.ofPlace(3, 0), UNKNOWN);
        due("the other one of that name isn't", y.ofPlace(1, 0), 0);
    }

    private static void rounds() {
        promise = 11;
        MovingPlaces x = new MovingPlaces();
        x.place(0, 0);
        x.thread(1, 50L);
        x.thread(1, 404142434445L);
        x.thread(1, 50L);
        due("one round", x.rounds(1), 2);
        due("a thread sees what one before it did", x.ofThread(2, 3), 0);
        due("a thread does not see what one behind it did", x.ofThread(0, 3), NONE);
        due("each does one act", x.ofThread(1, 1), 1);
        due("two rounds", x.rounds(2), 3);
        due("what was said by one behind it is heard in the next round", x.ofThread(0, 3), 1);
        due("till nothing is done", x.rounds(50), 3);
        due("nothing is done", x.rounds(50), 0);
        for (int most : new int[] {0, -1, 51, Integer.MIN_VALUE, Integer.MAX_VALUE}) {
            due("most " + most, x.rounds(most), OUTSIDE);
        }
        MovingPlaces y = new MovingPlaces();
        y.place(0, 0);
        y.place(0, 1);
        y.thread(0, 31L);
        y.thread(2, 10L);
        y.thread(1, 41L);
        due("as all is when its turn comes", y.rounds(1), 2);
        due("the opened one's thread can't go", y.ofThread(1, 1), 0);
        due("messages", y.ofPlace(1, 11), 1);
        MovingPlaces z = new MovingPlaces();
        z.thread(0, 50L);
        z.message(0, 2);
        z.thread(0, 49L);
        z.thread(0, 4050L);
        due("a thread waits", z.rounds(3), 3);
        due("it can't yet", z.can(), 0);
        due("it heard what it said", z.ofThread(2, 3), 0);
    }

    private static void rows() {
        promise = 12;
        MovingPlaces x = new MovingPlaces();
        due("none of three", x.rows(3), 0);
        x.thread(0, 40L);
        due("one act alone", x.rows(1), 1);
        due("not twice", x.rows(2), 0);
        x.thread(0, 404040L);
        due("rows of 1", x.rows(1), 2);
        due("rows of 2", x.rows(2), 3);
        due("rows of 3", x.rows(3), 4);
        due("rows of 0", x.rows(0), 1);
        for (int n : new int[] {-1, 4, 5, Integer.MIN_VALUE, Integer.MAX_VALUE}) {
            due("rows(" + n + ")", x.rows(n), OUTSIDE);
        }
        due("nothing is changed", x.ofThread(1, 1), 0);
        due("nothing is changed", x.ofPlace(0, 10), 0);
        MovingPlaces y = new MovingPlaces();
        for (int t = 0; t < 12; t++) {
            y.thread(0, 404040L);
        }
        due("twelve", y.rows(1), 12);
        due("twelve twelve times", y.rows(2), 144);
        due("and again", y.rows(3), 1728);
        MovingPlaces z = new MovingPlaces();
        z.thread(0, 50L);
        z.thread(0, 41L);
        z.thread(0, 50L);
        due("hearing waits for saying", z.rows(1), 1);
        due("then either hears", z.rows(2), 2);
        due("but not both", z.rows(3), 0);
    }

    private static void soonest() {
        promise = 13;
        MovingPlaces x = new MovingPlaces();
        x.place(0, 0);
        x.place(0, 1);
        x.place(0, 2);
        x.place(0, 3);
        x.thread(4, 40L);
        x.thread(3, 11L);
        x.thread(2, 10L);
        x.thread(1, 13L);
        x.thread(3, 11L);
        due("already", x.soonest(1, 0, -1), 0);
        due("already, no thread", x.soonest(1, 0, 0), NONE);
        due("one act", x.soonest(2, 1, -1), 1);
        due("its thread", x.soonest(2, 1, 0), 2);
        due("no second", x.soonest(2, 1, 1), NONE);
        due("two acts", x.soonest(3, 1, -1), 2);
        due("the lesser first", x.soonest(3, 1, 0), 1);
        due("then", x.soonest(3, 1, 1), 2);
        due("no third", x.soonest(3, 1, 2), NONE);
        due("three acts", x.soonest(3, 4, -1), 3);
        due("the first", x.soonest(3, 4, 0), 1);
        due("the second", x.soonest(3, 4, 1), 2);
        due("the third", x.soonest(3, 4, 2), 3);
        due("never", x.soonest(4, 1, -1), NONE);
        due("never, first", x.soonest(4, 1, 0), NONE);
        due("the ground never is", x.soonest(0, 1, -1), NONE);
        due("nothing is changed", x.ofPlace(0, 3), set(1, 2, 3, 4));
        due("nothing is done", x.ofThread(1, 1), 0);
        due("no such p", x.soonest(5, 0, -1), UNKNOWN);
        due("no such q", x.soonest(0, 5, -1), UNKNOWN);
        due("no such p, k", x.soonest(5, 0, 3), UNKNOWN);
        dueForWrong("p", p -> x.soonest(p, 0, 0), UNKNOWN);
        dueForWrong("q", q -> x.soonest(0, q, 0), UNKNOWN);
        for (int k : new int[] {-2, -9, 3, 4, Integer.MIN_VALUE, Integer.MAX_VALUE}) {
            due("k " + k, x.soonest(1, 2, k), OUTSIDE);
            due("they are one, k " + k, x.soonest(2, 2, k), OUTSIDE);
        }
        for (int k = -1; k <= 2; k++) {
            due("they are one", x.soonest(2, 2, k), STATE);
            due("both the ground", x.soonest(0, 0, k), STATE);
        }
        MovingPlaces y = new MovingPlaces();
        y.place(0, 0);
        y.place(0, 1);
        y.thread(1, 40404011L);
        due("four acts are too many", y.soonest(1, 2, -1), NONE);
        y.act(0);
        due("three of one thread", y.soonest(1, 2, -1), 3);
        due("the same each time", y.soonest(1, 2, 2), 0);
        y.thread(1, 4211L);
        due("fewer by a later thread", y.soonest(1, 2, -1), 2);
        due("that one", y.soonest(1, 2, 0), 1);
        y.act(1);
        y.act(0);
        y.thread(1, 11L);
        due("of one length the lesser", y.soonest(1, 2, 0), 1);
    }

    private static void soonestOfGone() {
        promise = 13;
        MovingPlaces x = new MovingPlaces();
        x.place(0, 0);
        x.place(0, 1);
        x.thread(0, 31L);
        x.thread(0, 30L);
        due("one that is gone is within none", x.soonest(2, 1, -1), NONE);
        x.place(2, 2);
        x.place(1, 3);
        due("none is within one that is gone", x.soonest(3, 1, -1), NONE);
        x.thread(3, 1310L);
        due("an act that can't be done is not left out", x.soonest(3, 1, -1), NONE);
        x.thread(3, 10L);
        due("out by another's opening", x.soonest(3, 1, -1), 2);
        due("first the opening", x.soonest(3, 1, 0), 0);
        due("then it goes in", x.soonest(3, 1, 1), 3);
        x.act(0);
        due("gone p", x.soonest(2, 1, -1), UNKNOWN);
        due("gone q", x.soonest(1, 2, -1), UNKNOWN);
        due("gone both", x.soonest(2, 2, -1), UNKNOWN);
    }

    private static void said() {
        promise = 14;
        MovingPlaces x = new MovingPlaces();
        x.place(0, 0);
        x.place(1, 1);
        x.message(2, 3);
        due("a message", x.said(), set(3));
        x.thread(2, 50L);
        due("not by hearing", x.said(), set(3));
        x.act(0);
        due("the message is heard", x.ofPlace(2, 13), 0);
        due("some thread heard it", x.said(), set(3));
        x.thread(1, 10204531L);
        due("a say that is not done, also a later one", x.said(), set(3, 5));
        due("other kinds tell none", x.said(), set(3, 5));
        x.thread(0, 49L);
        due("9 tells none", x.said(), set(3, 5));
        MovingPlaces y = new MovingPlaces();
        y.place(0, 2);
        y.thread(1, 4449L);
        y.thread(1, 5050L);
        due("to be said", y.said(), set(4));
        y.act(0);
        due("it was said", y.said(), set(4));
        y.act(1);
        due("heard", y.said(), set(4));
        y.message(1, 0);
        due("and another", y.said(), set(0, 4));
        y.act(1);
        due("the latest heard alone", y.said(), set(0));
        y.message(1, 1);
        y.thread(0, 32L);
        y.act(2);
        due("messages of the opened one", y.said(), set(0, 1));
    }

    private static void moves() {
        promise = 15;
        MovingPlaces x = new MovingPlaces();
        for (int n = 0; n < 6; n++) {
            x.place(0, n);
        }
        x.thread(1, 31L);
        x.thread(2, 32L);
        x.thread(3, 33L);
        x.thread(4, 34L);
        x.thread(5, 35L);
        due("openings of one that does not move", x.moves(), 0);
        x.thread(6, 304025L);
        due("a chain of openings", x.moves(), set(0, 1, 2, 3, 4, 5));
        MovingPlaces y = new MovingPlaces();
        y.place(0, 0);
        y.place(0, 0);
        y.place(0, 1);
        y.place(0, 2);
        y.thread(1, 30L);
        y.thread(3, 4050L);
        y.thread(0, 10L);
        due("one that opens its own name; none in the ground", y.moves(), 0);
        y.thread(2, 4010L);
        due("an IN that is yet to be done", y.moves(), set(0));
        y.act(3);
        y.thread(4, 2950L);
        due("an OUT of 9", y.moves(), set(0, 2));
        y.thread(3, 39L);
        due("an OPEN of 9: name 0 may be said", y.moves(), set(0, 1, 2));
        due("which is so", y.said(), set(0));
        y.act(3);
        due("it went in", y.ofPlace(2, 1), 1);
        due("no IN is left", y.moves(), set(2));
        MovingPlaces z = new MovingPlaces();
        z.place(0, 0);
        z.place(0, 1);
        z.thread(1, 39L);
        z.thread(2, 10L);
        due("an OPEN of 9: no name may be said", z.moves(), set(1));
        z.message(0, 5);
        due("of a name that does not move", z.moves(), set(1));
        z.message(0, 1);
        due("of a name that moves", z.moves(), set(0, 1));
        z.seal(1, true);
        z.seal(2, true);
        due("seals do not matter", z.moves(), set(0, 1));
        z.seal(2, false);
        z.thread(0, 31L);
        z.act(2);
        due("its thread is in the ground", z.moves(), 0);
        MovingPlaces w = new MovingPlaces();
        w.place(0, 5);
        w.thread(1, 15L);
        due("an IN that can't be done", w.can(), 0);
        due("is left to be done", w.moves(), set(5));
    }

    private static void keepAndRestore() {
        promise = 16;
        MovingPlaces x = new MovingPlaces();
        due("keep", x.keep(), 1);
        due("there is one", x.many(5), 1);
        x.place(0, 0);
        due("keep again", x.keep(), 1);
        x.place(0, 1);
        promise = 17;
        due("restore", x.restore(), 1);
        due("the latest", x.many(3), 2);
        due("it stays", x.many(5), 1);
        x.place(0, 2);
        x.thread(0, 40L);
        due("restore again", x.restore(), 1);
        due("as it was", x.many(3), 2);
        due("no threads", x.many(1), 0);
        due("a new one has the next number", x.place(1, 3), 2);
        due("and its own name", x.ofPlace(2, 0), 3);
        due("no image", new MovingPlaces().restore(), STATE);
    }

    private static void imageHoldsAll() {
        promise = 17;
        MovingPlaces x = new MovingPlaces();
        x.place(0, 0);
        x.place(1, 1);
        x.place(0, 2);
        x.thread(2, 502049L);
        x.thread(1, 31L);
        x.thread(0, 323030L);
        x.message(2, 4);
        x.act(0);
        x.act(2);
        x.seal(2, true);
        x.keep();
        x.seal(2, false);
        x.seal(1, true);
        x.message(1, 3);
        x.message(2, 2);
        x.seal(1, false);
        x.act(0);
        x.act(0);
        x.act(2);
        x.place(0, 5);
        x.seal(4, true);
        x.message(4, 5);
        x.thread(4, 1050L);
        due("restore", x.restore(), 1);
        due("places that are not gone", x.many(0), 3);
        due("places that came", x.many(3), 4);
        due("threads", x.many(1), 3);
        due("messages", x.many(4), 0);
        due("gone is gone", x.ofPlace(3, 0), UNKNOWN);
        due("opened is there", x.ofPlace(1, 0), 0);
        due("in it", x.ofPlace(2, 1), 1);
        due("sealed", x.ofPlace(2, 2), 1);
        due("not sealed", x.ofPlace(1, 2), 0);
        due("heard", x.ofThread(0, 3), 4);
        due("done", x.ofThread(0, 1), 1);
        due("next", x.ofThread(0, 4), 20);
        due("where", x.ofThread(1, 0), 1);
        due("done", x.ofThread(2, 1), 1);
        due("the next place", x.place(0, 4), 4);
        due("is not sealed", x.ofPlace(4, 2), 0);
        due("has no message", x.ofPlace(4, 15), 0);
        due("the next thread", x.thread(4, 45L), 3);
        due("has its own acts", x.ofThread(3, 4), 45);
        due("as many as told", x.ofThread(3, 2), 1);
        x.rounds(50);
        due("and once more", x.restore(), 1);
        due("as it was", x.many(0), 3);
        due("can", x.can(), set(0, 2));
        MovingPlaces y = new MovingPlaces();
        y.thread(0, 5050L);
        y.message(0, 1);
        y.act(0);
        y.message(0, 2);
        y.keep();
        y.act(0);
        due("heard another", y.ofThread(0, 3), 2);
        y.restore();
        due("heard the one before", y.ofThread(0, 3), 1);
        due("the message is there again", y.ofPlace(0, 12), 1);
    }

    private static void many() {
        promise = 18;
        MovingPlaces x = new MovingPlaces();
        x.place(0, 0);
        x.place(1, 1);
        x.place(2, 0);
        x.thread(1, 31L);
        x.thread(2, 4040L);
        x.thread(3, 50L);
        x.message(2, 3);
        x.message(3, 3);
        x.message(3, 0);
        due("places", x.many(0), 4);
        due("threads", x.many(1), 3);
        due("over", x.many(2), 0);
        due("came", x.many(3), 4);
        due("messages", x.many(4), 3);
        due("no image", x.many(5), 0);
        x.act(0);
        due("one is gone", x.many(0), 3);
        due("one is over", x.many(2), 1);
        due("all came", x.many(3), 4);
        due("messages went on, none twice", x.many(4), 3);
        x.act(2);
        due("one message fewer", x.many(4), 2);
        due("two are over", x.many(2), 2);
        due("threads that are over count", x.many(1), 3);
        x.message(0, 5);
        due("the ground's messages, too", x.many(4), 3);
        x.keep();
        due("an image", x.many(5), 1);
        for (int what : new int[] {-9, -1, 6, 7, 10, Integer.MIN_VALUE, Integer.MAX_VALUE}) {
            due("what " + what, x.many(what), OUTSIDE);
        }
    }

    private static void refusalsChangeNothing() {
        promise = 10;
        MovingPlaces x = new MovingPlaces();
        x.place(0, 0);
        x.thread(1, 10L);
        x.thread(1, 50L);
        x.act(0);
        x.act(1);
        x.act(2);
        x.seal(0, true);
        x.message(1, 6);
        x.place(0, 6);
        x.thread(1, 0L);
        x.rounds(51);
        due("none done", x.ofThread(0, 1), 0);
        due("none heard", x.ofThread(1, 3), NONE);
        due("no place came", x.many(3), 2);
        due("no thread came", x.many(1), 2);
        due("no message", x.many(4), 0);
        due("no seal", x.ofPlace(0, 2), 0);
    }
}
