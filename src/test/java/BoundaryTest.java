import java.io.IOException;
import java.nio.file.Files;
import java.nio.file.Path;
import java.util.ArrayList;
import java.util.Arrays;
import java.util.List;
import java.util.Map;
import java.util.TreeMap;
import java.util.function.IntSupplier;
import java.util.function.ToIntFunction;

/**
 * A test of its own for each sentence of the document, with the edges that the sentence names.
 * The words stand with the test; at the end they are held against the document, so that a
 * sentence without a test, or words that are not the document's, are told as faults, too.
 */
public final class BoundaryTest {
    private static final int UNKNOWN = -1, OUTSIDE = -2, STATE = -3, FULL = -4, NONE = -9;
    private static final int IN = 1, OUT = 2, OPEN = 3, SAY = 4, HEAR = 5;
    private static final boolean SEALED = true, UNSEALED = false;
    private static final Path DOCUMENT = Path.of("../shared/DOC.md");

    /** Numbers that never are one of a place, thread or name; some come back to one if bits are cut off. */
    private static final int[] NEVER = {Integer.MIN_VALUE, Integer.MIN_VALUE + 1, -65536, -256, -64, -33, -32, -31,
        -12, -10, -9, -4, -3, -2, -1, 12, 13, 31, 32, 33, 63, 64, 65, 256, 65536, 1 << 30, Integer.MAX_VALUE - 1,
        Integer.MAX_VALUE};

    private static String part = "";
    private static String words = "";
    private static int passed = 0;
    private static int failed = 0;
    private static final Map<String, List<String>> TESTED = new TreeMap<>();

    public static void main(String[] args) throws IOException {
        wholeLife();
        refusals();
        refusalsChangeNothing();
        namesAndSets();
        termsOfPlaces();
        termsOfThreads();
        termsOfActNumbers();
        nextAct();
        whatWasHeard();
        actIn();
        actOut();
        actOpen();
        actSayAndHear();
        round();
        termsOfSaid();
        termsOfMoves();
        termsOfImage();
        promise1();
        promise2();
        promise3();
        promise4();
        promise5();
        promise6();
        promise7();
        promise8();
        promise9();
        promise10();
        promise11();
        promise12();
        promise13();
        promise13Rows();
        promise14();
        promise15();
        promise16And17();
        promise18();
        wordsAreTheDocuments();
        System.out.println(passed + " passed, " + failed + " failed");
        if (failed != 0) {
            System.exit(1);
        }
    }

    // ---- how a test is told

    private static void says(String sentence, Runnable test) {
        words = sentence;
        TESTED.computeIfAbsent(part, key -> new ArrayList<>()).add(sentence);
        test.run();
    }

    private static void due(String call, int got, int want) {
        if (got == want) {
            passed++;
        } else {
            failed++;
            System.out.println(part + ", '" + words + "': " + call + " answered " + got + ", due is " + want);
        }
    }

    private static void dueText(String call, String got, String want) {
        due(call + (got.equals(want) ? "" : ": " + got + " for " + want), got.equals(want) ? 1 : 0, 1);
    }

    /** A new object in which places came in turn, each told by the place that it is in and its name. */
    private static MovingPlaces world(int... insAndNames) {
        MovingPlaces x = new MovingPlaces();
        for (int i = 0; i + 1 < insAndNames.length; i += 2) {
            x.place(insAndNames[i], insAndNames[i + 1]);
        }
        return x;
    }

    /** Place 2, with name 1, was in place 1 and is gone; its opener, thread 0, is over. */
    private static MovingPlaces worldWithGone() {
        MovingPlaces x = world(0, 0, 1, 1, 0, 2);
        x.thread(1, 31L);
        x.act(0);
        return x;
    }

    private static int set(int... numbers) {
        int set = 0;
        for (int number : numbers) {
            set |= 1 << number;
        }
        return set;
    }

    private static int times(int n, IntSupplier call) {
        int last = 0;
        for (int i = 0; i < n; i++) {
            last = call.getAsInt();
        }
        return last;
    }

    /** Whether one thread with one act, in a place, can do it: as 'can' and 'act' tell. */
    private static void dueAct(String call, MovingPlaces x, int p, long act, int want) {
        int t = x.thread(p, act);
        due(call + ", can", x.can() >> t & 1, want == STATE ? 0 : 1);
        due(call + ", act", x.act(t), want);
        due(call + ", done", x.ofThread(t, 1), want == STATE ? 0 : 1);
    }

    /** All that can be seen of an object, in 214 calls. */
    private static String all(MovingPlaces x) {
        StringBuilder text = new StringBuilder();
        for (int number = 0; number < 12; number++) {
            for (int what = 0; what < 16; what = what == 5 ? 10 : what + 1) {
                text.append(x.ofPlace(number, what)).append(' ');
            }
            for (int what = 0; what < 5; what++) {
                text.append(x.ofThread(number, what)).append(' ');
            }
            text.append("; ");
        }
        for (int what = 0; what < 6; what++) {
            text.append(x.many(what)).append(' ');
        }
        return text.append(x.can()).append(' ').append(x.rows(3)).append(' ').append(x.said()).append(' ')
            .append(x.moves()).toString();
    }

    // ---- what it is

    private static void wholeLife() {
        part = "What it is";
        says("An object is used for at most 512 calls after it has been made", () -> {
            MovingPlaces x = new MovingPlaces();
            for (int call = 1; call <= 510; call += 2) {
                due("call " + call, x.rows(3), 0);
                due("call " + (call + 1), x.keep(), 1);
            }
            due("call 511", x.place(0, 5), 1);
            due("call 512", x.ofPlace(1, 0), 5);
        });
    }

    // ---- terms: refusals

    private static MovingPlaces fullWorld() {
        MovingPlaces x = new MovingPlaces();
        times(11, () -> x.place(0, 0));
        times(12, () -> x.thread(0, 50L));
        return x;
    }

    private static void refusals() {
        part = "Terms";
        says("REFUSALS: of a call's line the first that fits is answered, in the order told there", () -> {
            MovingPlaces x = fullWorld();
            due("place: no such place, FULL", x.place(12, 0), UNKNOWN);
            due("place: no such name, FULL", x.place(0, 6), UNKNOWN);
            due("place: FULL alone", x.place(0, 0), FULL);
            due("thread: no such place, not as told, FULL", x.thread(12, 0L), UNKNOWN);
            due("thread: no such place, FULL", x.thread(12, 50L), UNKNOWN);
            due("thread: not as told, FULL", x.thread(0, 0L), OUTSIDE);
            due("thread: FULL alone", x.thread(0, 50L), FULL);
            due("ofPlace: no such place, no such what", x.ofPlace(12, 6), UNKNOWN);
            due("ofThread: no such thread, no such what", x.ofThread(12, 5), UNKNOWN);
            due("soonest: no such place, k, one", x.soonest(12, 12, 3), UNKNOWN);
            due("soonest: no such place, one", x.soonest(12, 12, 0), UNKNOWN);
            due("soonest: no such p, k", x.soonest(12, 1, 3), UNKNOWN);
            due("soonest: no such q, k", x.soonest(1, 12, 3), UNKNOWN);
            due("soonest: k, one", x.soonest(1, 1, 3), OUTSIDE);
            due("soonest: one alone", x.soonest(1, 1, 2), STATE);
            times(90, () -> x.message(0, 0));
            due("message: no such place", x.message(12, 0), UNKNOWN);
            due("message: no such name", x.message(0, 6), UNKNOWN);
            due("message: FULL alone", x.message(0, 0), FULL);
        });
        says("UNKNOWN (there is no such PLACE", () -> {
            MovingPlaces x = world(0, 0, 0, 1);
            dueUnknownPlace(x, 3);
            for (int p : NEVER) {
                dueUnknownPlace(x, p);
            }
        });
        says("also one that is GONE", () -> {
            MovingPlaces x = worldWithGone();
            due("a place is gone", x.many(3) - x.many(0), 1);
            dueUnknownPlace(x, 2);
        });
        says("no such THREAD, NAME)", () -> {
            MovingPlaces x = world(0, 0);
            due("a thread", x.thread(1, 4040L), 0);
            due("act of the next", x.act(1), UNKNOWN);
            due("ofThread of the next", x.ofThread(1, 0), UNKNOWN);
            for (int number : NEVER) {
                due("act " + number, x.act(number), UNKNOWN);
                due("ofThread " + number, x.ofThread(number, 0), UNKNOWN);
                due("place of name " + number, x.place(0, number), UNKNOWN);
                due("message of name " + number, x.message(0, number), UNKNOWN);
            }
        });
        says("OUTSIDE (another number is not as told)", () -> {
            MovingPlaces x = world(0, 0, 0, 1);
            x.thread(1, 40L);
            int[] others = {Integer.MIN_VALUE, -10, -9, -2, 51, 64, 256, 1 << 30, Integer.MAX_VALUE};
            for (int other : others) {
                due("acts " + other, x.thread(0, (long) other), OUTSIDE);
                due("ofPlace what " + other, x.ofPlace(1, other), OUTSIDE);
                due("ofThread what " + other, x.ofThread(0, other), OUTSIDE);
                due("rounds " + other, x.rounds(other), OUTSIDE);
                due("rows " + other, x.rows(other), OUTSIDE);
                due("soonest k " + other, x.soonest(1, 2, other), OUTSIDE);
                due("many what " + other, x.many(other), OUTSIDE);
            }
        });
        says("STATE (as told), FULL (as told)", () -> {
            due("STATE", MovingPlaces.STATE, -3);
            due("FULL", MovingPlaces.FULL, -4);
            due("UNKNOWN", MovingPlaces.UNKNOWN, -1);
            due("OUTSIDE", MovingPlaces.OUTSIDE, -2);
        });
    }

    private static void dueUnknownPlace(MovingPlaces x, int p) {
        due("place in " + p, x.place(p, 0), UNKNOWN);
        due("thread in " + p, x.thread(p, 40L), UNKNOWN);
        due("seal " + p, x.seal(p, SEALED), UNKNOWN);
        due("unseal " + p, x.seal(p, UNSEALED), UNKNOWN);
        due("message to " + p, x.message(p, 0), UNKNOWN);
        due("ofPlace " + p, x.ofPlace(p, 0), UNKNOWN);
        due("ofPlace's messages " + p, x.ofPlace(p, 10), UNKNOWN);
        due(p + " within", x.within(p, 1), UNKNOWN);
        due("within " + p, x.within(1, p), UNKNOWN);
        due(p + " within itself", x.within(p, p), UNKNOWN);
        due("soonest " + p + " in", x.soonest(p, 1, -1), UNKNOWN);
        due("soonest in " + p, x.soonest(1, p, -1), UNKNOWN);
        due("soonest " + p + " in itself", x.soonest(p, p, -1), UNKNOWN);
    }

    /** Twelve places of which place 5 is gone, twelve threads, an image that is not as all is now. */
    private static MovingPlaces worldForRefusals() {
        MovingPlaces x = world(0, 0, 1, 1, 1, 2, 0, 3, 0, 5, 4, 4, 4, 4, 0, 2, 2, 0, 2, 1, 3, 3);
        long[] acts = {3540L, 14L, 25L, 34L, 5010L, 1910L, 29L, 39L, 49L, 43L, 1012L, 4120L};
        int[] spots = {0, 1, 2, 1, 8, 2, 2, 2, 2, 4, 2, 3};
        for (int t = 0; t < 12; t++) {
            x.thread(spots[t], acts[t]);
        }
        x.act(0);
        x.act(9);
        x.keep();
        x.seal(7, SEALED);
        x.message(2, 3);
        x.act(11);
        times(90, () -> x.message(3, 3));
        return x;
    }

    private static void refusalsChangeNothing() {
        part = "Terms";
        says("they change nothing", () -> {
            String now = all(worldForRefusals());
            MovingPlaces back = worldForRefusals();
            back.restore();
            String image = all(back);
            due("the image is another one", now.equals(image) ? 1 : 0, 0);
            dueNoChange("place in none", x -> x.place(12, 0), UNKNOWN, now, image);
            dueNoChange("place in one that is gone", x -> x.place(5, 0), UNKNOWN, now, image);
            dueNoChange("place of no name", x -> x.place(0, 6), UNKNOWN, now, image);
            dueNoChange("place, full", x -> x.place(0, 0), FULL, now, image);
            dueNoChange("thread in none", x -> x.thread(12, 40L), UNKNOWN, now, image);
            dueNoChange("thread in one that is gone", x -> x.thread(5, 40L), UNKNOWN, now, image);
            dueNoChange("thread of no acts", x -> x.thread(0, 0L), OUTSIDE, now, image);
            dueNoChange("thread, full", x -> x.thread(0, 40L), FULL, now, image);
            dueNoChange("seal of one that is gone", x -> x.seal(5, SEALED), UNKNOWN, now, image);
            dueNoChange("seal of the ground", x -> x.seal(0, SEALED), STATE, now, image);
            dueNoChange("seal of 32", x -> x.seal(32, SEALED), UNKNOWN, now, image);
            dueNoChange("message to one that is gone", x -> x.message(5, 0), UNKNOWN, now, image);
            dueNoChange("message of no name", x -> x.message(0, 6), UNKNOWN, now, image);
            dueNoChange("message of name -1", x -> x.message(1, -1), UNKNOWN, now, image);
            dueNoChange("message, full", x -> x.message(3, 3), FULL, now, image);
            dueNoChange("act of no thread", x -> x.act(12), UNKNOWN, now, image);
            dueNoChange("act of thread -1", x -> x.act(-1), UNKNOWN, now, image);
            dueNoChange("an IN that can't be done", x -> x.act(1), STATE, now, image);
            dueNoChange("an OUT that can't be done", x -> x.act(2), STATE, now, image);
            dueNoChange("an OPEN that can't be done", x -> x.act(3), STATE, now, image);
            dueNoChange("a HEAR that can't be done", x -> x.act(4), STATE, now, image);
            dueNoChange("an IN of 9, nothing heard", x -> x.act(5), STATE, now, image);
            dueNoChange("an OUT of 9, nothing heard", x -> x.act(6), STATE, now, image);
            dueNoChange("an OPEN of 9, nothing heard", x -> x.act(7), STATE, now, image);
            dueNoChange("a SAY of 9, nothing heard", x -> x.act(8), STATE, now, image);
            dueNoChange("act of one that is over", x -> x.act(9), STATE, now, image);
            dueNoChange("rounds(0)", x -> x.rounds(0), OUTSIDE, now, image);
            dueNoChange("rounds(51)", x -> x.rounds(51), OUTSIDE, now, image);
            dueNoChange("rows(4)", x -> x.rows(4), OUTSIDE, now, image);
            dueNoChange("soonest of none", x -> x.soonest(12, 0, 0), UNKNOWN, now, image);
            dueNoChange("soonest, k 3", x -> x.soonest(1, 4, 3), OUTSIDE, now, image);
            dueNoChange("soonest, they are one", x -> x.soonest(1, 1, 0), STATE, now, image);
            dueNoChange("many(6)", x -> x.many(6), OUTSIDE, now, image);
            MovingPlaces none = world(0, 0, 1, 1);
            none.thread(2, 20L);
            none.message(2, 4);
            String before = all(none);
            due("restore without an image", none.restore(), STATE);
            dueText("all is as it was", all(none), before);
        });
    }

    /** Each call has objects of its own, so that none is used for more than 512 calls. */
    private static void dueNoChange(String call, ToIntFunction<MovingPlaces> refused, int want,
            String now, String image) {
        MovingPlaces x = worldForRefusals();
        due(call, refused.applyAsInt(x), want);
        dueText(call + " leaves all as it is", all(x), now);
        MovingPlaces y = worldForRefusals();
        refused.applyAsInt(y);
        y.restore();
        dueText(call + " leaves the image", all(y), image);
    }

    // ---- terms: numbers, sets, names

    private static void namesAndSets() {
        part = "Terms";
        says("NONE is -9", () -> {
            due("the constant", MovingPlaces.NONE, -9);
            due("the ground's name", world().ofPlace(0, 0), -9);
        });
        says("Sets are told as bits (bit k for number k)", () -> {
            MovingPlaces x = new MovingPlaces();
            times(10, () -> x.place(0, 0));
            x.place(1, 5);
            due("places 1 to 10, not 0 and 11", x.ofPlace(0, 3), 0x7FE);
            due("place 11 alone", x.ofPlace(1, 3), 1 << 11);
            x.thread(2, 10L);
            times(10, () -> x.thread(3, 50L));
            x.thread(2, 25L);
            due("threads 0 and 11", x.ofPlace(2, 4), 1 + (1 << 11));
            due("thread 0 can", x.can(), 1);
            x.message(0, 0);
            x.message(0, 5);
            due("names 0 and 5", x.said(), 1 + 32);
            due("name 0 moves", x.moves(), 1);
            MovingPlaces y = world(0, 0, 0, 5);
            times(11, () -> y.thread(0, 50L));
            y.thread(2, 10L);
            due("thread 11 can", y.can(), 1 << 11);
            due("name 5 moves", y.moves(), 32);
        });
        says("NAMES are 0 .. 5", () -> {
            for (int name = -1; name <= 10; name++) {
                boolean is = name >= 0 && name <= 5;
                due("place of name " + name, world().place(0, name), is ? 1 : UNKNOWN);
                due("message of name " + name, world().message(0, name), is ? 1 : UNKNOWN);
                due("messages of name " + name, world().ofPlace(0, 10 + name), is ? 0 : OUTSIDE);
            }
            due("the name is kept", world(0, 5).ofPlace(1, 0), 5);
            due("name 0 is kept", world(0, 0).ofPlace(1, 0), 0);
        });
    }

    // ---- terms 1: places and threads

    private static void termsOfPlaces() {
        part = "Terms";
        says("PLACES, 12 at most, are numbered from 0 on as they come", () -> {
            MovingPlaces x = new MovingPlaces();
            for (int p = 1; p < 12; p++) {
                due("place " + p, x.place(p / 2, p % 6), p);
            }
            due("the thirteenth", x.place(0, 0), FULL);
            due("and again", x.place(11, 5), FULL);
            due("twelve came", x.many(3), 12);
            due("the last is there", x.ofPlace(11, 1), 5);
        });
        says("(those that are GONE count, too)", () -> {
            MovingPlaces x = worldWithGone();
            due("no number comes again", x.place(0, 0), 4);
            times(7, () -> x.place(0, 0));
            due("twelve came", x.many(3), 12);
            due("eleven are not gone", x.many(0), 11);
            due("yet it is full", x.place(0, 0), FULL);
            x.thread(0, 30L);
            due("one more is gone", x.act(1), OPEN);
            due("still full", x.place(0, 0), FULL);
        });
        says("0 is the GROUND, it has no NAME and is in none", () -> {
            MovingPlaces x = world(0, 0);
            due("its name", x.ofPlace(0, 0), NONE);
            due("in which", x.ofPlace(0, 1), NONE);
            due("in how many", x.ofPlace(0, 5), 0);
            due("within another", x.within(0, 1), 0);
            for (int n = 0; n <= 5; n++) {
                dueAct("out of the ground by name " + n, world(0, 0), 1, 20L + n, STATE);
                dueAct("the ground out by name " + n, world(0, 0), 0, 20L + n, STATE);
            }
            due("the ground moves no name", motionOf(0, 10L), 0);
        });
        says("each other one has a NAME and is IN a PLACE (at once within it)", () -> {
            MovingPlaces x = world(0, 3, 1, 4, 2, 3);
            due("name", x.ofPlace(1, 0), 3);
            due("the same name again", x.ofPlace(3, 0), 3);
            due("in the ground", x.ofPlace(1, 1), 0);
            due("in the one at once around it", x.ofPlace(3, 1), 2);
            due("not those further within", x.ofPlace(1, 3), set(2));
        });
        says("is SEALED or not (not at first)", () -> {
            MovingPlaces x = world(0, 0, 0, 0);
            due("not at first", x.ofPlace(1, 2), 0);
            x.keep();
            x.place(0, 0);
            x.seal(3, SEALED);
            x.restore();
            due("number 3 comes anew", x.place(0, 0), 3);
            due("it is not, though one of that number was", x.ofPlace(3, 2), 0);
        });
        says("the GROUND never is", () -> {
            MovingPlaces x = world(0, 0);
            due("at first", x.ofPlace(0, 2), 0);
            x.seal(0, SEALED);
            due("nor then", x.ofPlace(0, 2), 0);
            x.seal(1, SEALED);
            x.thread(0, 30L);
            due("none opens the sealed one", x.act(0), STATE);
            due("nor then", x.ofPlace(0, 2), 0);
        });
        says("One is WITHIN another one, if it is IN it, or IN one that is WITHIN it", () -> {
            MovingPlaces x = new MovingPlaces();
            for (int p = 0; p < 11; p++) {
                x.place(p, p % 6);
            }
            for (int p = 0; p < 12; p++) {
                for (int q = 0; q < 12; q++) {
                    due(p + " within " + q, x.within(p, q), p > q ? 1 : 0);
                }
            }
        });
        says("PLACES have MESSAGES: so many of each NAME (none at first)", () -> {
            MovingPlaces x = world(0, 0);
            for (int n = 0; n <= 5; n++) {
                due("none at first", x.ofPlace(1, 10 + n), 0);
                due("one", x.message(1, n), 1);
            }
            due("each of its own", x.message(1, 5), 2);
            due("not of the next name", x.ofPlace(1, 14), 1);
            due("not of the ground", x.many(4), 7);
            due("none of a new one", x.ofPlace(x.place(0, 0), 10), 0);
            x.keep();
            x.place(0, 0);
            x.message(3, 0);
            x.restore();
            due("none of one that has the number of another", x.ofPlace(x.place(0, 0), 10), 0);
        });
    }

    /** The names that move in a world with one place of name 0, of name 1 and of name 2, by one thread. */
    private static int motionOf(int p, long acts) {
        MovingPlaces x = world(0, 0, 0, 1, 0, 2);
        x.thread(p, acts);
        return x.moves();
    }

    private static void termsOfThreads() {
        part = "Terms";
        says("THREADS, 12 at most, are numbered from 0 on as they come, each in a PLACE", () -> {
            MovingPlaces x = world(0, 0);
            for (int t = 0; t < 12; t++) {
                due("thread " + t, x.thread(t % 2, 40L), t);
            }
            due("the thirteenth", x.thread(0, 40L), FULL);
            due("twelve came", x.many(1), 12);
            due("the last is there", x.ofThread(11, 0), 1);
            due("all do their act", x.rounds(1), 12);
            due("those that are over count", x.thread(0, 40L), FULL);
        });
        says("What a THREAD HEARD is NONE at first", () -> {
            MovingPlaces x = world();
            x.message(0, 0);
            x.thread(0, 50L);
            due("at first", x.ofThread(0, 3), NONE);
            x.keep();
            x.thread(0, 50L);
            x.act(1);
            due("it heard", x.ofThread(1, 3), 0);
            x.restore();
            x.thread(0, 49L);
            due("a new one of that number did not", x.ofThread(1, 3), NONE);
            due("and can't say it", x.act(1), STATE);
        });
        says("It is OVER, if all its ACTS are done", () -> {
            MovingPlaces x = world();
            x.thread(0, 404142434445L);
            for (int done = 0; done < 6; done++) {
                due("not with " + done + " done", x.many(2), 0);
                due("the next", x.ofThread(0, 4), 40 + done);
                due("it acts", x.act(0), SAY);
            }
            due("with all six", x.many(2), 1);
            due("none is next", x.ofThread(0, 4), NONE);
            due("no seventh", x.act(0), STATE);
            due("six are done", x.ofThread(0, 1), 6);
        });
    }

    private static void termsOfActNumbers() {
        part = "Terms";
        says("with 1 to 6 ACTS in order", () -> {
            due("none", world().thread(0, 0L), OUTSIDE);
            long acts = 0;
            for (int count = 1; count <= 9; count++) {
                acts = acts * 100 + 50;
                MovingPlaces x = world();
                due(count + " acts", x.thread(0, acts), count <= 6 ? 0 : OUTSIDE);
                due("how many", x.ofThread(0, 2), count <= 6 ? count : UNKNOWN);
            }
            due("the greatest", world().thread(0, 505050505050L), 0);
            due("one more digit", world().thread(0, 1505050505050L), OUTSIDE);
            due("six that are right behind more", world().thread(0, 10000000000000L + 101010101010L), OUTSIDE);
            due("the greatest number", world().thread(0, Long.MAX_VALUE), OUTSIDE);
        });
        says("told as a number with two digits for each, the first ACT the highest", () -> {
            MovingPlaces x = world();
            x.thread(0, 152535455049L);
            due("the first", x.ofThread(0, 4), 15);
            MovingPlaces y = world();
            y.thread(0, 414243L);
            y.act(0);
            due("the first was said", y.ofPlace(0, 11), 1);
            due("not the last", y.ofPlace(0, 13), 0);
            for (int hears = 0; hears <= 6; hears++) {
                dueActsInTurn(hears);
            }
            long[] odd = {1L, 4L, 5L, 9L, 110L, 440L, 512L, 10101L, 1010101L, 101010101L, 10101010101L};
            for (long acts : odd) {
                due("an odd count of digits: " + acts, world().thread(0, acts), OUTSIDE);
            }
            long[] below = {-10L, -40L, -50L, -4040L, -404040404040L, Long.MIN_VALUE, Long.MIN_VALUE + 1};
            for (long acts : below) {
                due("below 0: " + acts, world().thread(0, acts), OUTSIDE);
            }
            due("2^32 and 10 is not 10", world().thread(0, (1L << 32) + 10), OUTSIDE);
            due("2^32 times 40 is not 0", world().thread(0, 40L << 32), OUTSIDE);
        });
        says("a kind (1 IN, 2 OUT, 3 OPEN, 4 SAY, 5 HEAR)", () -> {
            for (int kind = 0; kind <= 9; kind++) {
                boolean is = kind >= 1 && kind <= 5;
                due("kind " + kind, world().thread(0, kind * 10L), is ? 0 : OUTSIDE);
                due("kind " + kind + " in front", world().thread(0, kind * 1000L + 50), kind == 0 || is ? 0 : OUTSIDE);
                due("kind " + kind + " at the end", world().thread(0, 5000L + kind * 10), is ? 0 : OUTSIDE);
                due("kind " + kind + " between", world().thread(0, 500050L + kind * 1000), is ? 0 : OUTSIDE);
                due("kind " + kind + " of six, first", world().thread(0, kind * 100000000000L + 5050505050L),
                    kind == 0 || is ? 0 : OUTSIDE);
            }
        });
        says("then a NAME's digit 0 .. 5, or 9: what it HEARD", () -> {
            for (int kind = IN; kind <= SAY; kind++) {
                for (int digit = 0; digit <= 9; digit++) {
                    boolean is = digit <= 5 || digit == 9;
                    long act = kind * 10L + digit;
                    due("act " + act, world().thread(0, act), is ? 0 : OUTSIDE);
                    due("act " + act + " in front", world().thread(0, act * 100 + 50), is ? 0 : OUTSIDE);
                    due("act " + act + " at the end", world().thread(0, 5000 + act), is ? 0 : OUTSIDE);
                }
            }
        });
        says("HEAR is 50", () -> {
            for (int digit = 0; digit <= 9; digit++) {
                due("5" + digit, world().thread(0, 50L + digit), digit == 0 ? 0 : OUTSIDE);
                due("5" + digit + " at the end", world().thread(0, 4050L + digit), digit == 0 ? 0 : OUTSIDE);
                due("5" + digit + " in front", world().thread(0, 5040L + 100 * digit), digit == 0 ? 0 : OUTSIDE);
            }
        });
    }

    /** Six acts: some of the greatest number, 50, and then those of the least, 10, that can't be done. */
    private static void dueActsInTurn(int hears) {
        MovingPlaces x = world();
        times(6, () -> x.message(0, 0));
        long acts = 0;
        for (int i = 0; i < 6; i++) {
            acts = acts * 100 + (i < hears ? 50 : 10);
        }
        x.thread(0, acts);
        for (int i = 0; i < hears; i++) {
            due("act " + i + " of " + acts, x.ofThread(0, 4), 50);
            due("it is done", x.act(0), HEAR);
        }
        due("behind the last that is done, of " + acts, x.ofThread(0, 4), hears == 6 ? NONE : 10);
    }

    // ---- terms 2: when an act can be done

    private static void nextAct() {
        part = "Terms";
        says("The next ACT of a THREAD that is not OVER, in a PLACE p, CAN be done", () -> {
            MovingPlaces x = world(0, 0);
            x.thread(1, 5040L);
            due("a later act is not done ahead of the next", x.can(), 0);
            due("nor by act", x.act(0), STATE);
            x.message(0, 0);
            due("what others have is not in its place", x.can(), 0);
            x.message(1, 0);
            due("now it can", x.can(), 1);
            due("hear", x.act(0), HEAR);
            due("say", x.act(0), SAY);
            due("over: it can't", x.can(), 0);
            due("over: not by act", x.act(0), STATE);
            due("over: not in a round", x.rounds(1), 0);
        });
    }

    private static void whatWasHeard() {
        part = "Terms";
        says("(if its digit is 9, only if it HEARD a NAME, and by that NAME)", () -> {
            for (long kind = IN; kind <= SAY; kind++) {
                MovingPlaces x = world(0, 0, 1, 1, 1, 0, 2, 0, 0, 1, 2, 1);
                dueAct("nothing heard, kind " + kind, x, 2, kind * 10 + 9, STATE);
                dueAct("nothing heard, in the ground, that has no name, kind " + kind, x, 1, kind * 10 + 9, STATE);
                dueAct("nothing heard, the ground itself, kind " + kind, x, 0, kind * 10 + 9, STATE);
            }
            MovingPlaces x = world(0, 0, 1, 1, 1, 0, 2, 0, 2, 1, 1, 3);
            x.message(2, 0);
            x.thread(2, 5049192939L);
            due("hear name 0", x.act(0), HEAR);
            due("say it", x.act(0), SAY);
            due("name 0 was said", x.ofPlace(2, 10), 1);
            due("in it", x.act(0), IN);
            due("into place 3", x.ofPlace(2, 1), 3);
            due("out of it", x.act(0), OUT);
            due("in place 1", x.ofPlace(2, 1), 1);
            due("open it", x.act(0), OPEN);
            due("place 4 is gone", x.ofPlace(4, 0), UNKNOWN);
            MovingPlaces y = world();
            y.message(0, 5);
            y.thread(0, 50495049L);
            y.thread(0, 49L);
            due("hear name 5", y.act(0), HEAR);
            due("another thread heard none", y.act(1), STATE);
            due("say", y.act(0), SAY);
            due("name 5", y.ofPlace(0, 15), 1);
            y.message(0, 2);
            due("hear name 2", y.act(0), HEAR);
            due("say the latest", y.act(0), SAY);
            due("name 2", y.ofPlace(0, 12), 1);
            due("not name 5 again", y.ofPlace(0, 15), 1);
            MovingPlaces z = world(0, 0, 0, 1);
            z.message(1, 3);
            z.thread(1, 5019L);
            z.act(0);
            due("none beside has the name that was heard", z.act(0), STATE);
        });
    }

    private static void actIn() {
        part = "Terms";
        says("IN n: p is not the GROUND", () -> {
            MovingPlaces x = world(0, 0);
            dueAct("a thread in the ground", x, 0, 10L, STATE);
            due("nothing moved", x.ofPlace(1, 1), 0);
        });
        says("and beside it (IN the same PLACE) is another PLACE with NAME n", () -> {
            dueAct("none but itself has the name", world(0, 0), 1, 10L, STATE);
            dueAct("one in it", world(0, 1, 1, 0), 1, 10L, STATE);
            dueAct("the one around it", world(0, 0, 1, 1), 2, 10L, STATE);
            dueAct("one beside the one around it", world(0, 0, 0, 1, 2, 2), 3, 10L, STATE);
            dueAct("one in one beside it", world(0, 1, 0, 2, 2, 0), 1, 10L, STATE);
            dueAct("another name", world(0, 1, 0, 2), 1, 10L, STATE);
            dueAct("beside it in the ground", world(0, 1, 0, 0), 1, 10L, IN);
            dueAct("beside it in another one", world(0, 5, 1, 0, 1, 1), 3, 10L, IN);
            MovingPlaces x = world(0, 1, 0, 0);
            x.thread(0, 30L);
            x.act(0);
            dueAct("one that is gone", x, 1, 10L, STATE);
        });
        says("that is not SEALED: p is IN that then", () -> {
            MovingPlaces x = world(0, 1, 0, 0, 1, 3);
            x.seal(2, SEALED);
            dueAct("a sealed one", x, 1, 10L, STATE);
            x.seal(2, UNSEALED);
            dueAct("not sealed any more", x, 1, 10L, IN);
            due("it is in it", x.ofPlace(1, 1), 2);
            due("what is in it stays", x.ofPlace(3, 1), 1);
            due("its threads stay", x.ofPlace(1, 4), set(0, 1));
            due("out of the ground", x.ofPlace(0, 3), set(2));
            MovingPlaces y = world(0, 1, 0, 0);
            y.seal(1, SEALED);
            dueAct("itself may be sealed", y, 1, 10L, IN);
            MovingPlaces z = world(0, 3, 1, 1, 1, 0);
            z.seal(1, SEALED);
            dueAct("the one around may be sealed", z, 2, 10L, IN);
        });
        says("(of several: in the one of the least number)", () -> {
            MovingPlaces x = world(0, 1, 0, 0, 0, 0);
            dueAct("two", x, 1, 10L, IN);
            due("the least", x.ofPlace(1, 1), 2);
            MovingPlaces y = world(0, 0, 0, 0, 0, 0);
            dueAct("itself is the least", y, 1, 10L, IN);
            due("the next", y.ofPlace(1, 1), 2);
            MovingPlaces z = world(0, 0, 0, 0, 0, 0);
            dueAct("itself is the last", z, 3, 10L, IN);
            due("the least", z.ofPlace(3, 1), 1);
            MovingPlaces w = world(0, 1, 0, 0, 0, 0);
            w.seal(2, SEALED);
            dueAct("the least is sealed", w, 1, 10L, IN);
            due("the least that is not", w.ofPlace(1, 1), 3);
            MovingPlaces v = world(0, 1, 1, 0, 0, 0);
            dueAct("a lesser one is not beside it", v, 1, 10L, IN);
            due("the one beside", v.ofPlace(1, 1), 3);
        });
    }

    private static void actOut() {
        part = "Terms";
        says("OUT n: p is IN a PLACE with NAME n", () -> {
            for (int n = 0; n <= 5; n++) {
                dueAct("the ground is in none, " + n, world(0, n), 0, 20L + n, STATE);
                dueAct("in the ground, that has no name, " + n, world(0, n, 0, n), 1, 20L + n, STATE);
            }
            dueAct("another name", world(0, 0, 1, 1), 2, 21L, STATE);
            dueAct("of the one around the one around", world(0, 0, 1, 1, 2, 2), 3, 20L, STATE);
            dueAct("of one beside", world(0, 0, 1, 1, 1, 2), 2, 22L, STATE);
            dueAct("of one in it", world(0, 0, 1, 1, 2, 2), 2, 22L, STATE);
            dueAct("of the one around", world(0, 0, 1, 1, 2, 2), 3, 21L, OUT);
            dueAct("name 5", world(0, 5, 1, 1), 2, 25L, OUT);
        });
        says("that is not SEALED: p is IN the PLACE then in which that is", () -> {
            MovingPlaces x = world(0, 0, 1, 1, 2, 2, 3, 3);
            x.seal(2, SEALED);
            dueAct("out of a sealed one", x, 3, 21L, STATE);
            x.seal(2, UNSEALED);
            x.seal(3, SEALED);
            x.seal(1, SEALED);
            dueAct("itself and one further out may be sealed", x, 3, 21L, OUT);
            due("one place further out, no more", x.ofPlace(3, 1), 1);
            due("what is in it stays", x.ofPlace(4, 1), 3);
            due("beside the one it came out of", x.ofPlace(1, 3), set(2, 3));
            dueAct("out of the sealed one then", x, 3, 20L, STATE);
            x.seal(1, UNSEALED);
            dueAct("out into the ground", x, 3, 20L, OUT);
            due("in the ground", x.ofPlace(3, 1), 0);
            dueAct("no further", x, 3, 20L, STATE);
        });
    }

    private static void actOpen() {
        part = "Terms";
        says("OPEN n: IN p is a PLACE with NAME n that is not SEALED", () -> {
            dueAct("none in it", world(0, 0), 1, 30L, STATE);
            dueAct("one beside", world(0, 0, 0, 1), 1, 31L, STATE);
            dueAct("the one around", world(0, 0, 1, 1), 2, 30L, STATE);
            dueAct("one further within", world(0, 0, 1, 1, 2, 2), 1, 32L, STATE);
            dueAct("another name", world(0, 0, 1, 1), 1, 32L, STATE);
            dueAct("one in it", world(0, 0, 1, 1), 1, 31L, OPEN);
            dueAct("in the ground", world(0, 5), 0, 35L, OPEN);
            MovingPlaces x = world(0, 0, 1, 1);
            x.seal(2, SEALED);
            dueAct("a sealed one", x, 1, 31L, STATE);
            x.seal(1, SEALED);
            x.seal(2, UNSEALED);
            dueAct("itself may be sealed", x, 1, 31L, OPEN);
            dueAct("one that is gone", x, 1, 31L, STATE);
        });
        says("(of several the one of the least number)", () -> {
            MovingPlaces x = world(0, 1, 1, 0, 1, 0, 1, 0);
            x.seal(2, SEALED);
            dueAct("the least is sealed", x, 1, 30L, OPEN);
            due("the sealed one is there", x.ofPlace(2, 0), 0);
            due("the next one is gone", x.ofPlace(3, 0), UNKNOWN);
            due("the last one is there", x.ofPlace(4, 0), 0);
            x.seal(2, UNSEALED);
            dueAct("none is sealed", x, 1, 30L, OPEN);
            due("the least is gone", x.ofPlace(2, 0), UNKNOWN);
            due("the last one is there", x.ofPlace(4, 0), 0);
        });
        says("that is GONE then", () -> {
            MovingPlaces x = world(0, 0, 1, 1);
            dueAct("open", x, 0, 30L, OPEN);
            due("not in the ground any more", x.ofPlace(0, 3), set(2));
            due("two are there", x.many(0), 2);
            dueUnknownPlace(x, 1);
        });
        says("PLACES IN it are IN p then", () -> {
            MovingPlaces x = world(0, 0, 1, 1, 2, 2, 2, 3, 3, 4, 0, 5);
            x.seal(3, SEALED);
            dueAct("open", x, 1, 31L, OPEN);
            due("those that were in it", x.ofPlace(1, 3), set(3, 4));
            due("those further within stay", x.ofPlace(5, 1), 3);
            due("those beside stay", x.ofPlace(6, 1), 0);
            due("a sealed one stays sealed", x.ofPlace(3, 2), 1);
            due("another one is not sealed", x.ofPlace(4, 2), 0);
            due("one place less around", x.ofPlace(5, 5), 3);
        });
        says("its THREADS in p", () -> {
            MovingPlaces x = world(0, 0, 1, 1, 2, 2);
            x.thread(2, 40L);
            x.thread(2, 50L);
            x.thread(3, 50L);
            x.thread(0, 50L);
            x.act(0);
            dueAct("open", x, 1, 31L, OPEN);
            due("also one that is over", x.ofThread(0, 0), 1);
            due("one that is not", x.ofThread(1, 0), 1);
            due("not one further within", x.ofThread(2, 0), 3);
            due("not one elsewhere", x.ofThread(3, 0), 0);
            due("all in it", x.ofPlace(1, 4), set(0, 1, 4));
        });
        says("its MESSAGES are more of p", () -> {
            MovingPlaces x = world(0, 0, 1, 1, 2, 2);
            times(90, () -> x.message(1, 0));
            times(90, () -> x.message(2, 0));
            times(3, () -> x.message(2, 5));
            times(2, () -> x.message(1, 4));
            x.message(3, 3);
            dueAct("open", x, 1, 31L, OPEN);
            due("ninety and ninety", x.ofPlace(1, 10), 180);
            due("of its own alone", x.ofPlace(1, 14), 2);
            due("of the opened one alone", x.ofPlace(1, 15), 3);
            due("not of one further within", x.ofPlace(1, 13), 0);
            due("none is lost, none is twice", x.many(4), 186);
        });
    }

    private static void actSayAndHear() {
        part = "Terms";
        says("SAY n: p has one MESSAGE n more", () -> {
            MovingPlaces x = world(0, 0);
            x.seal(1, SEALED);
            dueAct("in a sealed one", x, 1, 45L, SAY);
            due("one", x.ofPlace(1, 15), 1);
            due("of that name alone, and nowhere else", x.many(4), 1);
            dueAct("name 0 in the ground", x, 0, 40L, SAY);
            due("one", x.ofPlace(0, 10), 1);
            times(90, () -> x.message(1, 3));
            dueAct("beyond ninety", x, 1, 43L, SAY);
            due("ninety-one", x.ofPlace(1, 13), 91);
        });
        says("HEAR: p has a MESSAGE (of several the least NAME)", () -> {
            MovingPlaces x = world(0, 0, 1, 1, 0, 0);
            x.message(0, 0);
            x.message(2, 0);
            x.message(3, 0);
            dueAct("only others have one", x, 1, 50L, STATE);
            x.message(1, 5);
            dueAct("name 5 alone", x, 1, 50L, HEAR);
            due("name 5", x.ofThread(1, 3), 5);
            times(3, () -> x.message(1, 4));
            x.message(1, 3);
            dueAct("of two", x, 1, 50L, HEAR);
            due("the least, though there are more of the other", x.ofThread(2, 3), 3);
            x.message(1, 0);
            dueAct("name 0", x, 1, 50L, HEAR);
            due("name 0", x.ofThread(3, 3), 0);
            dueAct("in the ground", x, 0, 50L, HEAR);
        });
        says("it has one fewer, and that NAME is what the THREAD HEARD then", () -> {
            MovingPlaces x = world();
            times(2, () -> x.message(0, 1));
            x.message(0, 4);
            x.thread(0, 50505050L);
            x.thread(0, 50L);
            x.act(0);
            due("one fewer", x.ofPlace(0, 11), 1);
            due("heard", x.ofThread(0, 3), 1);
            due("another thread did not", x.ofThread(1, 3), NONE);
            x.act(0);
            due("none", x.ofPlace(0, 11), 0);
            x.act(0);
            due("the next name", x.ofThread(0, 3), 4);
            due("none is left", x.many(4), 0);
            due("nothing to hear", x.act(0), STATE);
            due("none, not fewer", x.many(4), 0);
            due("what it heard stays", x.ofThread(0, 3), 4);
        });
    }

    private static void round() {
        part = "Terms";
        says("A ROUND: all THREADS by number, each as all is when its turn comes", () -> {
            MovingPlaces x = world();
            x.thread(0, 50L);
            x.thread(0, 42L);
            x.thread(0, 50L);
            due("one says, one behind it hears", x.rounds(1), 2);
            due("the one ahead could not", x.ofThread(0, 1), 0);
            due("the one behind could", x.ofThread(2, 3), 2);
            MovingPlaces y = world(0, 0, 0, 1);
            y.thread(1, 11L);
            y.thread(2, 10L);
            due("only the first goes in", y.rounds(1), 1);
            due("the other one is around it", y.ofPlace(1, 1), 2);
            MovingPlaces z = world(0, 0);
            z.thread(0, 30L);
            z.thread(1, 40L);
            due("a thread whose place is gone acts where it is", z.rounds(1), 2);
            due("in the ground", z.ofPlace(0, 10), 1);
        });
        says("it does its next ACT, if that CAN be done", () -> {
            MovingPlaces x = world();
            x.thread(0, 404040404040L);
            x.thread(0, 4910L);
            times(10, () -> x.thread(0, 40L));
            due("eleven can", x.rounds(1), 11);
            due("one act of each", x.ofThread(0, 1), 1);
            due("no act of one that can't", x.ofThread(1, 1), 0);
            due("the last, too", x.ofThread(11, 1), 1);
        });
    }

    // ---- terms 3: what may be said, what moves, the image

    private static void termsOfSaid() {
        part = "Terms";
        says("MAY BE SAID: NAMES of which there is a MESSAGE (of PLACES that are not GONE)", () -> {
            MovingPlaces x = world(0, 0, 1, 1);
            due("none", x.said(), 0);
            x.message(2, 5);
            due("in a place further within", x.said(), set(5));
            x.message(0, 0);
            due("in the ground", x.said(), set(0, 5));
            MovingPlaces y = world(0, 0);
            y.message(1, 3);
            y.thread(0, 305050L);
            due("open", y.act(0), OPEN);
            due("its message is one of the ground", y.said(), set(3));
            due("hear it", y.act(0), HEAR);
            due("heard", y.said(), set(3));
            y.message(0, 4);
            due("hear another", y.act(0), HEAR);
            due("the place that is gone has none", y.said(), set(4));
        });
        says("that some THREAD HEARD", () -> {
            MovingPlaces x = world();
            x.thread(0, 50L);
            x.thread(0, 5050L);
            x.message(0, 0);
            x.act(0);
            due("one that is over", x.said(), set(0));
            due("no message is left", x.many(4), 0);
            x.message(0, 5);
            x.act(1);
            due("two threads", x.said(), set(0, 5));
            x.message(0, 2);
            x.act(1);
            due("the latest of each", x.said(), set(0, 2));
        });
        says("that a SAY tells that is not done", () -> {
            MovingPlaces x = world();
            x.thread(0, 505050504550L);
            due("a later one", x.said(), set(5));
            MovingPlaces y = world();
            y.thread(0, 4050L);
            y.thread(0, 5050L);
            due("the next one", y.said(), set(0));
            y.act(0);
            y.act(1);
            y.message(0, 1);
            y.act(1);
            due("one that is done, and heard, and forgotten", y.said(), set(1));
            MovingPlaces z = world(0, 0);
            z.thread(1, 101223345049L);
            due("neither IN, OUT, OPEN, HEAR, nor a SAY of 9", z.said(), 0);
            MovingPlaces w = world();
            w.thread(0, 5041L);
            w.thread(0, 394243L);
            due("also of threads that can't act", w.can(), 0);
            due("all that they would say", w.said(), set(1, 2, 3));
        });
        says("MAY BE SAID: NAMES of which there is a MESSAGE (of PLACES that are not GONE), that some THREAD HEARD, "
            + "that a SAY tells that is not done", () -> {
            MovingPlaces x = world(0, 0);
            x.thread(0, 5042L);
            x.thread(0, 50L);
            times(4, () -> x.message(0, 2));
            x.message(1, 2);
            due("two messages and a SAY of one name", x.said(), set(2));
            x.act(0);
            due("and it was heard by the one that says it", x.said(), set(2));
            x.act(1);
            due("and by another", x.said(), set(2));
            MovingPlaces y = world();
            y.thread(0, 4343L);
            due("said twice by one", y.said(), set(3));
            y.thread(0, 43L);
            due("and by another", y.said(), set(3));
        });
    }

    private static void termsOfMoves() {
        part = "Terms";
        says("A NAME MOVES, if in a PLACE with that NAME (not GONE)", () -> {
            due("in the ground, that has no name", motionOf(0, 1020L), 0);
            due("in a place", motionOf(2, 10L), set(1));
            MovingPlaces x = world(0, 0, 0, 0, 2, 1);
            x.thread(2, 10L);
            due("one of two of the name is enough; one in it is not moved by it", x.moves(), set(0));
            MovingPlaces y = world(0, 0, 1, 1);
            y.thread(2, 20L);
            due("not the one around", y.moves(), set(1));
            y.thread(1, 31L);
            y.act(1);
            due("the opened one's name moves no more, its thread is in another", y.moves(), set(0));
            MovingPlaces z = world(0, 0);
            z.thread(1, 10L);
            z.thread(0, 30L);
            z.act(1);
            due("the opened one's thread is in the ground", z.moves(), 0);
        });
        says("there is a THREAD with an ACT that is not done: IN, OUT", () -> {
            due("no thread", world(0, 0).moves(), 0);
            due("IN", motionOf(1, 15L), set(0));
            due("OUT", motionOf(1, 25L), set(0));
            due("SAY", motionOf(1, 4049L), 0);
            due("HEAR", motionOf(1, 50L), 0);
            due("OPEN of one that does not move", motionOf(1, 31L), 0);
            due("the last of six", motionOf(1, 505050505025L), set(0));
            due("the first of six", motionOf(1, 105050505050L), set(0));
            due("IN of 9, though no name may be said", motionOf(1, 19L), set(0));
            due("OUT of 9, though no name may be said", motionOf(1, 29L), set(0));
            MovingPlaces x = world(0, 0, 0, 1);
            x.thread(1, 1140L);
            due("not done", x.moves(), set(0));
            x.act(0);
            due("done, with one left that is none", x.moves(), 0);
            MovingPlaces y = world(0, 0);
            y.seal(1, SEALED);
            y.thread(1, 10L);
            due("it need not be one that can be done", y.moves(), set(0));
        });
        says("or OPEN of a NAME that MOVES", () -> {
            MovingPlaces x = world(0, 0, 0, 1, 0, 2, 0, 3, 0, 4, 0, 5);
            for (int p = 1; p <= 5; p++) {
                x.thread(p, 30L + p);
            }
            due("a row of openings, none moves", x.moves(), 0);
            x.thread(6, 10L);
            due("the last of the row moves", x.moves(), 63);
            MovingPlaces y = world(0, 0, 0, 1, 0, 2, 0, 3, 0, 4, 0, 5);
            for (int p = 6; p >= 2; p--) {
                y.thread(p, 30L + p - 2);
            }
            y.thread(1, 20L);
            due("the row the other way", y.moves(), 63);
            MovingPlaces z = world(0, 0, 0, 1);
            z.thread(1, 3130L);
            z.thread(2, 30L);
            due("two that open one another, or themselves", z.moves(), 0);
            MovingPlaces w = world(0, 0, 0, 1, 0, 2);
            w.thread(3, 10L);
            w.thread(1, 4250L);
            w.thread(2, 31L);
            due("SAY of a name that moves, OPEN of one that does not", w.moves(), set(2));
            w.thread(1, 505032L);
            due("OPEN of a name that moves", w.moves(), set(0, 2));
            w.thread(0, 30L);
            due("none by the ground's openings", w.moves(), set(0, 2));
            MovingPlaces v = world(0, 0, 1, 1);
            v.thread(2, 20L);
            v.thread(1, 31L);
            v.thread(1, 40L);
            due("the opening is yet to be done", v.moves(), set(0, 1));
            v.act(0);
            due("none is left that moves", v.moves(), 0);
        });
        says("(of 9: if some NAME that MAY BE SAID MOVES)", () -> {
            MovingPlaces x = world(0, 0, 0, 1, 0, 5);
            x.thread(3, 10L);
            x.thread(1, 39L);
            due("none may be said", x.moves(), set(5));
            x.message(0, 1);
            x.message(0, 0);
            due("some, that do not move", x.moves(), set(5));
            x.thread(0, 45L);
            due("by a SAY of one that moves", x.moves(), set(0, 5));
            MovingPlaces y = world(0, 0, 0, 1);
            y.thread(1, 39L);
            y.thread(2, 10L);
            y.message(2, 1);
            due("by a message", y.moves(), set(0, 1));
            y.thread(2, 50L);
            y.act(2);
            due("by another thread that heard it", y.moves(), set(0, 1));
            MovingPlaces z = world(0, 0, 0, 1);
            z.thread(1, 39L);
            z.message(0, 0);
            z.message(0, 1);
            z.thread(2, 39L);
            due("not by themselves", z.moves(), 0);
            MovingPlaces w = world(0, 0, 0, 1, 0, 2);
            w.thread(1, 39L);
            w.thread(2, 30L);
            w.thread(3, 10L);
            w.message(0, 2);
            due("a row of openings, the first by 9", w.moves(), set(0, 1, 2));
        });
    }

    private static void termsOfImage() {
        part = "Terms";
        says("THE IMAGE: all as it was as it was taken (the latest)", () -> {
            String now = all(worldForRefusals());
            MovingPlaces x = worldForRefusals();
            x.keep();
            x.rounds(50);
            x.seal(1, SEALED);
            x.seal(7, UNSEALED);
            times(5, () -> x.message(0, 5));
            due("back", x.restore(), 1);
            dueText("all", all(x), now);
            MovingPlaces y = world();
            y.keep();
            y.place(0, 0);
            y.keep();
            y.place(0, 0);
            y.restore();
            due("the latest, not the first", y.many(0), 2);
        });
    }

    // ---- the promises

    private static void promise1() {
        part = "Promise 1";
        says("The GROUND alone; no THREADS, no IMAGE.", () -> {
            int[] many = {1, 0, 0, 1, 0, 0};
            for (int what = 0; what < many.length; what++) {
                due("many(" + what + ")", world().many(what), many[what]);
            }
            due("the ground is there", world().ofPlace(0, 3), 0);
            due("no place 1", world().ofPlace(1, 0), UNKNOWN);
            due("no thread 0", world().ofThread(0, 0), UNKNOWN);
            due("no thread to act", world().act(0), UNKNOWN);
            due("no image", world().restore(), STATE);
            MovingPlaces x = world(0, 0);
            x.thread(0, 40L);
            x.keep();
            due("another object has its own places", world().many(3), 1);
            due("its own threads", world().many(1), 0);
            due("its own image", world().restore(), STATE);
        });
    }

    private static void promise2() {
        part = "Promise 2";
        says("A PLACE with a NAME comes IN one: its number.", () -> {
            MovingPlaces x = new MovingPlaces();
            due("the first", x.place(0, 5), 1);
            due("in the first", x.place(1, 0), 2);
            due("its name", x.ofPlace(2, 0), 0);
            due("in which", x.ofPlace(2, 1), 1);
            x.seal(2, SEALED);
            due("also in a sealed one", x.place(2, 0), 3);
            due("in the last of twelve", deepest().ofPlace(11, 1), 10);
            MovingPlaces y = new MovingPlaces();
            for (int p = 0; p < 12; p++) {
                due("place " + p, p == 0 ? 0 : y.place(p - 1, p % 6), p);
                for (int n = 0; n <= 5; n++) {
                    y.message(p, n);
                }
                due("those that were there keep their messages", y.many(4), 6 * (p + 1));
            }
            for (int p = 0; p < 12; p++) {
                for (int n = 0; n <= 5; n++) {
                    due("one of name " + n + " in " + p, y.ofPlace(p, 10 + n), 1);
                }
            }
        });
        says("UNKNOWN: in, name", () -> {
            MovingPlaces x = worldWithGone();
            for (int number : NEVER) {
                due("in " + number, x.place(number, 0), UNKNOWN);
                due("name " + number, x.place(0, number), UNKNOWN);
                due("both " + number, x.place(number, number), UNKNOWN);
            }
            due("in itself, that is yet to come", x.place(4, 0), UNKNOWN);
            due("in one that is gone", x.place(2, 0), UNKNOWN);
            due("name 6", x.place(0, 6), UNKNOWN);
            due("name 9", x.place(0, 9), UNKNOWN);
            due("none came", x.many(3), 4);
        });
        says("FULL.", () -> {
            MovingPlaces x = deepest();
            due("the thirteenth in the ground", x.place(0, 0), FULL);
            due("in the last", x.place(11, 5), FULL);
            due("and once more", x.place(0, 0), FULL);
            MovingPlaces y = new MovingPlaces();
            times(10, () -> y.place(0, 0));
            y.keep();
            due("the twelfth", y.place(0, 0), 11);
            due("full", y.place(0, 0), FULL);
            y.restore();
            due("not full any more", y.place(0, 0), 11);
            due("full again", y.place(0, 0), FULL);
        });
    }

    /** Twelve places, each in the one before it. */
    private static MovingPlaces deepest() {
        MovingPlaces x = new MovingPlaces();
        for (int p = 0; p < 11; p++) {
            x.place(p, p % 6);
        }
        return x;
    }

    private static void promise3() {
        part = "Promise 3";
        says("A THREAD comes in a PLACE: its number.", () -> {
            MovingPlaces x = world(0, 0);
            due("in the ground", x.thread(0, 10L), 0);
            due("in a place", x.thread(1, 404142434445L), 1);
            due("where", x.ofThread(1, 0), 1);
            x.seal(1, SEALED);
            due("also in a sealed one", x.thread(1, 50L), 2);
            due("in the last of twelve", deepest().thread(11, 10L), 0);
        });
        says("UNKNOWN", () -> {
            MovingPlaces x = worldWithGone();
            for (int p : NEVER) {
                due("place " + p, x.thread(p, 40L), UNKNOWN);
            }
            due("one that is yet to come", x.thread(4, 40L), UNKNOWN);
            due("one that is gone", x.thread(2, 40L), UNKNOWN);
            due("none came", x.many(1), 1);
        });
        says("OUTSIDE: acts are not as told", () -> {
            long[] wrong = {0L, 1L, 9L, 16L, 17L, 18L, 26L, 38L, 47L, 51L, 55L, 59L, 60L, 69L, 70L, 90L, 99L, 100L, 101L,
                109L, 1000L, 1016L, 1610L, 10001L, 100010L, 101006L, 1010101010101L, 10101010101010L, 99999999999999L,
                -1L, -9L, -10L, -1010L, Long.MIN_VALUE, Long.MAX_VALUE};
            for (long acts : wrong) {
                MovingPlaces x = world();
                due("acts " + acts, x.thread(0, acts), OUTSIDE);
                due("none came", x.many(1), 0);
            }
        });
        says("FULL.", () -> {
            MovingPlaces x = world(0, 0);
            times(11, () -> x.thread(1, 40L));
            x.keep();
            due("the twelfth", x.thread(1, 40L), 11);
            due("full", x.thread(1, 40L), FULL);
            due("in the ground, too", x.thread(0, 40L), FULL);
            x.rounds(50);
            due("all are over: still full", x.thread(1, 40L), FULL);
            x.restore();
            due("not full any more", x.thread(0, 45L), 11);
            due("full again", x.thread(0, 45L), FULL);
        });
    }

    private static void promise4() {
        part = "Promise 4";
        says("A PLACE is SEALED (true), or not: 1", () -> {
            MovingPlaces x = deepest();
            for (int p = 1; p < 12; p++) {
                due("seal " + p, x.seal(p, SEALED), 1);
                due(p + " is", x.ofPlace(p, 2), 1);
                due("the next is not", p == 11 ? 0 : x.ofPlace(p + 1, 2), 0);
            }
            due("unseal the last", x.seal(11, UNSEALED), 1);
            due("it is not", x.ofPlace(11, 2), 0);
            due("the one before is", x.ofPlace(10, 2), 1);
        });
        says("0: it was so.", () -> {
            MovingPlaces x = world(0, 0);
            due("not sealed at first", x.seal(1, UNSEALED), 0);
            x.seal(1, SEALED);
            due("sealed twice", x.seal(1, SEALED), 0);
            due("it still is", x.ofPlace(1, 2), 1);
            x.seal(1, UNSEALED);
            due("unsealed twice", x.seal(1, UNSEALED), 0);
            due("it still is not", x.ofPlace(1, 2), 0);
        });
        says("UNKNOWN", () -> {
            MovingPlaces x = worldWithGone();
            for (int p : NEVER) {
                due("place " + p, x.seal(p, SEALED), UNKNOWN);
                due("place " + p + " not", x.seal(p, UNSEALED), UNKNOWN);
            }
            due("one that is gone", x.seal(2, SEALED), UNKNOWN);
            due("one that is gone, not", x.seal(2, UNSEALED), UNKNOWN);
            due("one that is yet to come", x.seal(4, SEALED), UNKNOWN);
            due("it comes unsealed", x.ofPlace(x.place(0, 0), 2), 0);
        });
        says("STATE: it is the GROUND.", () -> {
            due("seal", world().seal(0, SEALED), STATE);
            due("unseal, though it was so", world().seal(0, UNSEALED), STATE);
        });
    }

    private static void promise5() {
        part = "Promise 5";
        says("A MESSAGE comes to a PLACE: how many of that NAME it has then.", () -> {
            MovingPlaces x = deepest();
            due("the first", x.message(11, 5), 1);
            due("the second", x.message(11, 5), 2);
            due("another name", x.message(11, 0), 1);
            due("another place", x.message(10, 5), 1);
            due("the ground", x.message(0, 0), 1);
            x.seal(11, SEALED);
            due("a sealed one", x.message(11, 5), 3);
        });
        says("UNKNOWN: p, name", () -> {
            MovingPlaces x = worldWithGone();
            for (int number : NEVER) {
                due("place " + number, x.message(number, 0), UNKNOWN);
                due("name " + number, x.message(3, number), UNKNOWN);
            }
            due("one that is gone", x.message(2, 0), UNKNOWN);
            due("one that is yet to come", x.message(4, 0), UNKNOWN);
            due("name 6", x.message(1, 6), UNKNOWN);
            due("name 9", x.message(1, 9), UNKNOWN);
            due("none came", x.many(4), 0);
        });
        says("FULL: it has 90 of them.", () -> {
            MovingPlaces x = world(0, 0);
            due("the 89th", times(89, () -> x.message(1, 2)), 89);
            due("the 90th", x.message(1, 2), 90);
            due("full", x.message(1, 2), FULL);
            due("ninety, no more", x.ofPlace(1, 12), 90);
            due("not of another name", x.message(1, 3), 1);
            due("not of another place", x.message(0, 2), 1);
            x.thread(1, 50L);
            due("hear one of them", x.act(0), HEAR);
            due("one comes again", x.message(1, 2), 90);
            due("full again", x.message(1, 2), FULL);
            dueAct("an act is not refused", x, 1, 42L, SAY);
            due("ninety-one", x.ofPlace(1, 12), 91);
            due("beyond ninety", x.message(1, 2), FULL);
        });
        says("FULL: it has 90 of them.", () -> {
            MovingPlaces x = world(0, 0);
            for (int n = 0; n < 5; n++) {
                int name = n;
                due("ninety of name " + name, times(90, () -> x.message(1, name)), 90);
            }
            due("450 in all, none of name 5", x.message(1, 5), 1);
        });
        says("FULL: it has 90 of them.", () -> {
            MovingPlaces x = world(0, 0, 0, 1);
            times(89, () -> x.message(1, 2));
            x.message(2, 2);
            x.message(0, 2);
            x.thread(0, 3031L);
            x.act(0);
            due("ninety by opening", x.ofPlace(0, 12), 90);
            due("full", x.message(0, 2), FULL);
            x.act(0);
            due("ninety-one by opening", x.ofPlace(0, 12), 91);
            due("full", x.message(0, 2), FULL);
        });
    }

    private static void promise6() {
        part = "Promise 6";
        says("Of a PLACE: 0 its NAME (NONE: the GROUND), 1 IN which it is (NONE: the GROUND)", () -> {
            MovingPlaces x = deepest();
            due("the ground's name", x.ofPlace(0, 0), NONE);
            due("the ground is in none", x.ofPlace(0, 1), NONE);
            for (int p = 1; p < 12; p++) {
                due("name of " + p, x.ofPlace(p, 0), (p - 1) % 6);
                due("around " + p, x.ofPlace(p, 1), p - 1);
            }
        });
        says("2 whether SEALED (1, 0)", () -> {
            MovingPlaces x = world(0, 0, 0, 0);
            x.seal(2, SEALED);
            due("the ground", x.ofPlace(0, 2), 0);
            due("not", x.ofPlace(1, 2), 0);
            due("sealed", x.ofPlace(2, 2), 1);
        });
        says("3 PLACES IN it, as a set", () -> {
            MovingPlaces x = world(0, 0, 1, 1, 1, 2, 3, 3);
            due("of the ground", x.ofPlace(0, 3), set(1));
            due("two", x.ofPlace(1, 3), set(2, 3));
            due("none", x.ofPlace(4, 3), 0);
            x.thread(1, 3132L);
            x.act(0);
            due("one is gone", x.ofPlace(1, 3), set(3));
            x.act(0);
            due("one more is gone, the one in it came", x.ofPlace(1, 3), set(4));
            MovingPlaces y = new MovingPlaces();
            times(11, () -> y.place(0, 3));
            due("eleven", y.ofPlace(0, 3), 4094);
        });
        says("4 THREADS in it, as a set", () -> {
            MovingPlaces x = world(0, 0, 1, 1);
            due("none", x.ofPlace(0, 4), 0);
            times(6, () -> x.thread(0, 40L));
            times(6, () -> x.thread(2, 40L));
            due("of the ground, not those within", x.ofPlace(0, 4), 63);
            due("not those within", x.ofPlace(1, 4), 0);
            due("up to 11", x.ofPlace(2, 4), 63 << 6);
            x.rounds(1);
            due("those that are over, too", x.ofPlace(2, 4), 63 << 6);
        });
        says("5 in how many PLACES it is, one in another (0: the GROUND)", () -> {
            MovingPlaces x = deepest();
            for (int p = 0; p < 12; p++) {
                due("of " + p, x.ofPlace(p, 5), p);
            }
            x.thread(10, 34L);
            x.act(0);
            due("one is gone around none", x.ofPlace(10, 5), 10);
            x.thread(0, 30L);
            x.act(1);
            due("one is gone around it", x.ofPlace(10, 5), 9);
        });
        says("10 and n: MESSAGES of NAME n.", () -> {
            MovingPlaces x = deepest();
            for (int n = 0; n <= 5; n++) {
                int name = n;
                times(n + 1, () -> x.message(11, name));
            }
            for (int n = 0; n <= 5; n++) {
                due("of name " + n, x.ofPlace(11, 10 + n), n + 1);
                due("of another place", x.ofPlace(10, 10 + n), 0);
            }
        });
        says("UNKNOWN", () -> {
            MovingPlaces x = worldWithGone();
            for (int p : NEVER) {
                due("place " + p, x.ofPlace(p, 0), UNKNOWN);
                due("place " + p + ", messages", x.ofPlace(p, 15), UNKNOWN);
            }
            for (int what = -1; what <= 16; what++) {
                due("one that is gone, " + what, x.ofPlace(2, what), UNKNOWN);
                due("one that is yet to come, " + what, x.ofPlace(4, what), UNKNOWN);
            }
        });
        says("OUTSIDE.", () -> {
            MovingPlaces x = deepest();
            int[] wrong = {Integer.MIN_VALUE, Integer.MIN_VALUE + 10, -10, -9, -1, 6, 7, 8, 9, 16, 17, 19, 20, 32, 256,
                1 << 30, Integer.MAX_VALUE - 5, Integer.MAX_VALUE};
            for (int what : wrong) {
                due("what " + what + " of the ground", x.ofPlace(0, what), OUTSIDE);
                due("what " + what + " of the last", x.ofPlace(11, what), OUTSIDE);
            }
        });
    }

    private static void promise7() {
        part = "Promise 7";
        says("Of a THREAD: 0 in which PLACE, 1 how many ACTS are done, 2 how many there are", () -> {
            MovingPlaces x = world(0, 0);
            x.thread(1, 40L);
            x.thread(0, 404040404040L);
            due("in which", x.ofThread(0, 0), 1);
            due("in the ground", x.ofThread(1, 0), 0);
            for (int done = 0; done <= 6; done++) {
                due("done", x.ofThread(1, 1), done);
                due("in all", x.ofThread(1, 2), 6);
                x.act(1);
            }
            due("of the other none is done", x.ofThread(0, 1), 0);
            due("of the other one in all", x.ofThread(0, 2), 1);
        });
        says("3 what it HEARD", () -> {
            MovingPlaces x = world();
            x.thread(0, 505050L);
            due("NONE at first", x.ofThread(0, 3), NONE);
            x.message(0, 5);
            x.act(0);
            due("name 5", x.ofThread(0, 3), 5);
            x.message(0, 0);
            x.act(0);
            due("name 0", x.ofThread(0, 3), 0);
        });
        says("4 the next ACT as two digits (NONE: it is OVER).", () -> {
            MovingPlaces x = world();
            x.message(0, 2);
            x.thread(0, 504945L);
            due("the first", x.ofThread(0, 4), 50);
            x.act(0);
            due("with its 9, not what was heard", x.ofThread(0, 4), 49);
            x.act(0);
            due("the last", x.ofThread(0, 4), 45);
            x.act(0);
            due("over", x.ofThread(0, 4), NONE);
            due("what it heard is still told", x.ofThread(0, 3), 2);
            MovingPlaces y = world();
            y.thread(0, 10L);
            due("the digit 0 is told", y.ofThread(0, 4), 10);
        });
        says("UNKNOWN", () -> {
            MovingPlaces x = world();
            due("none came", x.ofThread(0, 0), UNKNOWN);
            x.thread(0, 40L);
            due("the next", x.ofThread(1, 0), UNKNOWN);
            for (int t : NEVER) {
                due("thread " + t, x.ofThread(t, 0), UNKNOWN);
                due("thread " + t + ", next act", x.ofThread(t, 4), UNKNOWN);
            }
        });
        says("OUTSIDE.", () -> {
            MovingPlaces x = world();
            x.thread(0, 40L);
            int[] wrong = {Integer.MIN_VALUE, -9, -1, 5, 6, 10, 32, 36, 256, Integer.MAX_VALUE};
            for (int what : wrong) {
                due("what " + what, x.ofThread(0, what), OUTSIDE);
            }
            x.act(0);
            due("over, what 5", x.ofThread(0, 5), OUTSIDE);
        });
    }

    private static void promise8() {
        part = "Promise 8";
        says("Whether a PLACE is WITHIN another one (1, 0).", () -> {
            MovingPlaces x = deepest();
            due("the last within the ground", x.within(11, 0), 1);
            due("the last within the first", x.within(11, 1), 1);
            due("the first within the last", x.within(1, 11), 0);
            due("the ground within one", x.within(0, 11), 0);
            due("one within itself", x.within(11, 11), 0);
            due("the ground within itself", x.within(0, 0), 0);
            due("beside", world(0, 0, 0, 1).within(2, 1), 0);
            due("in one beside", world(0, 0, 0, 1, 1, 2).within(3, 2), 0);
            x.thread(5, 35L);
            x.act(0);
            due("one between is gone", x.within(7, 5), 1);
        });
        says("UNKNOWN.", () -> {
            MovingPlaces x = worldWithGone();
            for (int number : NEVER) {
                due("p " + number, x.within(number, 0), UNKNOWN);
                due("q " + number, x.within(1, number), UNKNOWN);
            }
            due("p is gone", x.within(2, 1), UNKNOWN);
            due("q is gone", x.within(1, 2), UNKNOWN);
            due("both are", x.within(2, 2), UNKNOWN);
            due("p is yet to come", x.within(4, 0), UNKNOWN);
            due("q is yet to come", x.within(1, 4), UNKNOWN);
        });
    }

    private static void promise9() {
        part = "Promise 9";
        says("THREADS whose next ACT CAN be done, as a set.", () -> {
            due("no threads", world().can(), 0);
            MovingPlaces x = world(0, 0);
            times(12, () -> x.thread(0, 40L));
            due("all twelve", x.can(), 4095);
            due("asking changes nothing", x.can(), 4095);
            x.act(11);
            due("the last is over", x.can(), 2047);
            x.act(0);
            due("the first is over", x.can(), 2046);
            x.rounds(1);
            due("all are over", x.can(), 0);
        });
    }

    private static void promise10() {
        part = "Promise 10";
        says("A THREAD does its next ACT: of which kind (1 .. 5) it was.", () -> {
            MovingPlaces x = world(0, 0, 0, 1, 2, 2);
            x.message(2, 4);
            x.thread(2, 1020325040L);
            int[] kinds = {IN, OUT, OPEN, HEAR, SAY};
            for (int i = 0; i < kinds.length; i++) {
                due("kind", x.act(0), kinds[i]);
                due("one more is done", x.ofThread(0, 1), i + 1);
            }
            MovingPlaces y = world();
            times(12, () -> y.thread(0, 40L));
            due("the last thread", y.act(11), SAY);
            due("it alone", y.many(2), 1);
        });
        says("UNKNOWN", () -> {
            due("there is none", world().act(0), UNKNOWN);
            MovingPlaces x = world();
            x.thread(0, 4040L);
            due("the next", x.act(1), UNKNOWN);
            for (int t : NEVER) {
                due("thread " + t, x.act(t), UNKNOWN);
            }
            due("nothing was done", x.ofThread(0, 1), 0);
        });
        says("STATE: it is OVER, or it CAN'T be done.", () -> {
            MovingPlaces x = world();
            x.thread(0, 404040404040L);
            due("six acts", times(6, () -> x.act(0)), SAY);
            due("it is over", x.act(0), STATE);
            due("six messages", x.ofPlace(0, 10), 6);
            long[] blocked = {10L, 20L, 30L, 50L, 19L, 29L, 39L, 49L};
            for (long act : blocked) {
                dueAct("act " + act, world(), 0, act, STATE);
            }
        });
    }

    /**
     * 54 acts that are done one in a round: each thread waits for the last act of the next one,
     * which by its greater number comes behind it. Seven wait for the place to be in another one,
     * two for one in it to be opened.
     */
    private static MovingPlaces slowWorld() {
        MovingPlaces x = world(0, 5, 0, 0, 0, 1, 0, 2, 0, 3, 0, 4, 0, 5, 1, 0, 8, 1, 9, 2, 10, 3);
        times(3, () -> x.thread(0, 10L));
        x.thread(1, 334040404040L);
        x.thread(1, 314040404032L);
        x.thread(1, 254040404030L);
        for (int n = 4; n >= 0; n--) {
            x.thread(1, 204040404010L + n * 10000000000L + n + 1);
        }
        x.thread(1, 404040404010L);
        return x;
    }

    private static void promise11() {
        part = "Promise 11";
        says("ROUNDS, so many (1 .. 50) at most", () -> {
            MovingPlaces x = slowWorld();
            due("the least", x.rounds(1), 1);
            due("and two", x.rounds(2), 2);
            MovingPlaces y = slowWorld();
            due("the most", y.rounds(50), 50);
            due("four acts are left to be done", y.rounds(50), 4);
            due("then none", y.rounds(50), 0);
            due("49", slowWorld().rounds(49), 49);
        });
        says("till one in which nothing is done: how many ACTS were done.", () -> {
            due("no threads", world().rounds(50), 0);
            MovingPlaces x = world();
            times(12, () -> x.thread(0, 404040404040L));
            due("one round", x.rounds(1), 12);
            due("all that is left", x.rounds(50), 60);
            due("nothing is left", x.rounds(1), 0);
            MovingPlaces y = world();
            times(12, () -> y.thread(0, 404040404040L));
            due("as many as there are", y.rounds(6), 72);
            MovingPlaces z = world();
            z.thread(0, 50L);
            due("nothing is done", z.rounds(50), 0);
            z.message(0, 0);
            due("then it is", z.rounds(50), 1);
        });
        says("OUTSIDE.", () -> {
            MovingPlaces x = world();
            x.thread(0, 404040L);
            int[] wrong = {Integer.MIN_VALUE, -51, -50, -1, 0, 51, 52, 100, 257, 65537, Integer.MAX_VALUE};
            for (int most : wrong) {
                due("most " + most, x.rounds(most), OUTSIDE);
                due("nothing was done", x.ofThread(0, 1), 0);
            }
        });
    }

    private static void promise12() {
        part = "Promise 12";
        says("How many rows of n THREADS (0 .. 3; also some more than once) there are", () -> {
            for (int n = 0; n <= 3; n++) {
                due("no threads, n " + n, world().rows(n), n == 0 ? 1 : 0);
            }
            MovingPlaces x = world();
            x.thread(0, 4040L);
            due("one of two acts, n 0", x.rows(0), 1);
            due("n 1", x.rows(1), 1);
            due("n 2, twice", x.rows(2), 1);
            due("n 3, not thrice", x.rows(3), 0);
            MovingPlaces y = world();
            times(12, () -> y.thread(0, 404040404040L));
            due("twelve, n 1", y.rows(1), 12);
            due("twelve, n 2", y.rows(2), 144);
            due("twelve, n 3", y.rows(3), 1728);
            due("twelve, n 0", y.rows(0), 1);
        });
        says("that CAN act one behind another", () -> {
            MovingPlaces x = world(0, 0, 0, 1);
            x.thread(1, 11L);
            x.thread(2, 10L);
            due("either", x.rows(1), 2);
            due("not both: the other is around then", x.rows(2), 0);
            MovingPlaces y = world();
            y.thread(0, 50L);
            y.thread(0, 40L);
            y.thread(0, 49L);
            due("one", y.rows(1), 1);
            due("one behind another", y.rows(2), 1);
            due("the third heard nothing itself", y.rows(3), 0);
            MovingPlaces z = world(0, 0, 1, 1, 2, 2);
            z.thread(0, 30L);
            z.thread(0, 31L);
            z.thread(0, 32L);
            due("one", z.rows(1), 1);
            due("two", z.rows(2), 1);
            due("three", z.rows(3), 1);
        });
        says("(nothing is changed).", () -> {
            String now = all(worldForRefusals());
            for (int n = 0; n <= 3; n++) {
                MovingPlaces x = worldForRefusals();
                x.rows(n);
                dueText("n " + n, all(x), now);
            }
            MovingPlaces y = world();
            y.thread(0, 40L);
            y.rows(3);
            due("no image comes", y.many(5), 0);
            due("none to restore", y.restore(), STATE);
        });
        says("OUTSIDE.", () -> {
            MovingPlaces x = world();
            x.thread(0, 404040404040L);
            int[] wrong = {Integer.MIN_VALUE, -9, -2, -1, 4, 5, 6, 32, 256, Integer.MAX_VALUE};
            for (int n : wrong) {
                due("n " + n, x.rows(n), OUTSIDE);
            }
        });
    }

    /** Place 1 has a thread, of number 1, with these acts; place 2, with name 1, is beside it. */
    private static MovingPlaces worldOfActs(long acts) {
        MovingPlaces x = world(0, 0, 0, 1);
        x.thread(0, 50L);
        x.thread(1, acts);
        return x;
    }

    private static void dueRow(MovingPlaces x, int p, int q, int... row) {
        due(p + " within " + q + ", how many", x.soonest(p, q, -1), row.length);
        for (int k = 0; k < 3; k++) {
            due(p + " within " + q + ", thread " + k, x.soonest(p, q, k), k < row.length ? row[k] : NONE);
        }
    }

    private static void dueNoRow(MovingPlaces x, int p, int q) {
        for (int k = -1; k < 3; k++) {
            due(p + " within " + q + ", k " + k, x.soonest(p, q, k), NONE);
        }
    }

    private static void promise13() {
        part = "Promise 13";
        says("By how few ACTS (0 .. 3)", () -> {
            dueRow(deepest(), 11, 1);
            dueRow(deepest(), 11, 0);
            dueRow(worldOfActs(11L), 1, 2, 1);
            dueRow(worldOfActs(4011L), 1, 2, 1, 1);
            dueRow(worldOfActs(404011L), 1, 2, 1, 1, 1);
            dueNoRow(worldOfActs(40404011L), 1, 2);
            dueNoRow(deepest(), 1, 11);
            dueNoRow(deepest(), 0, 1);
        });
        says("of some THREADS one behind another, a PLACE comes to be WITHIN another one", () -> {
            MovingPlaces x = world(0, 0, 0, 1, 0, 2, 0, 3);
            x.thread(1, 11L);
            x.thread(2, 12L);
            x.thread(3, 13L);
            dueRow(x, 1, 4, 0, 1, 2);
            dueRow(x, 2, 4, 1, 2);
            dueRow(x, 1, 3, 0, 1);
            MovingPlaces y = world(0, 0, 0, 1, 1, 2);
            y.thread(1, 11L);
            dueRow(y, 3, 2, 0);
            MovingPlaces z = world(0, 0, 0, 1, 2, 2);
            z.thread(1, 1211L);
            dueNoRow(z, 1, 3);
            z.thread(1, 1112L);
            dueRow(z, 1, 3, 1, 0);
            MovingPlaces w = world(0, 0, 0, 1, 2, 2);
            w.thread(0, 31L);
            w.thread(1, 12L);
            dueRow(w, 1, 3, 0, 1);
            MovingPlaces v = world(0, 0, 0, 1);
            v.seal(2, SEALED);
            v.thread(1, 11L);
            dueNoRow(v, 1, 2);
        });
        says("(nothing is changed)", () -> {
            String now = all(worldForRefusals());
            for (int k = -1; k < 3; k++) {
                MovingPlaces x = worldForRefusals();
                x.soonest(1, 11, k);
                x.soonest(2, 4, k);
                dueText("k " + k, all(x), now);
            }
            MovingPlaces y = worldOfActs(404011L);
            y.soonest(1, 2, 0);
            due("no image comes", y.many(5), 0);
            due("none to restore", y.restore(), STATE);
        });
        says("how many (k -1), of these the k-th THREAD (from 0 on)", () -> {
            MovingPlaces x = world(0, 0, 0, 1, 0, 2, 0, 3);
            times(9, () -> x.thread(0, 50L));
            x.thread(3, 13L);
            x.thread(2, 12L);
            x.thread(1, 11L);
            due("how many", x.soonest(1, 4, -1), 3);
            due("the first", x.soonest(1, 4, 0), 11);
            due("the second", x.soonest(1, 4, 1), 10);
            due("the third", x.soonest(1, 4, 2), 9);
        });
        says("UNKNOWN", () -> {
            MovingPlaces x = worldWithGone();
            for (int number : NEVER) {
                due("p " + number, x.soonest(number, 1, -1), UNKNOWN);
                due("q " + number, x.soonest(1, number, -1), UNKNOWN);
            }
            for (int k = -2; k <= 3; k++) {
                due("p is gone, k " + k, x.soonest(2, 1, k), UNKNOWN);
                due("q is gone, k " + k, x.soonest(1, 2, k), UNKNOWN);
                due("both are, k " + k, x.soonest(2, 2, k), UNKNOWN);
                due("one is yet to come, k " + k, x.soonest(4, 4, k), UNKNOWN);
            }
        });
        says("OUTSIDE: k is not -1 .. 2", () -> {
            int[] wrong = {Integer.MIN_VALUE, -9, -3, -2, 3, 4, 32, 256, Integer.MAX_VALUE};
            for (int k : wrong) {
                due("k " + k, worldOfActs(404011L).soonest(1, 2, k), OUTSIDE);
                due("they are one, k " + k, worldOfActs(11L).soonest(1, 1, k), OUTSIDE);
                due("by none, k " + k, worldOfActs(11L).soonest(1, 0, k), OUTSIDE);
            }
        });
        says("STATE: they are one.", () -> {
            for (int k = -1; k <= 2; k++) {
                due("a place, k " + k, worldOfActs(11L).soonest(1, 1, k), STATE);
                due("the ground, k " + k, worldOfActs(11L).soonest(0, 0, k), STATE);
            }
        });
    }

    private static void promise13Rows() {
        part = "Promise 13";
        says("of the first row (the lesser THREAD where they differ first)", () -> {
            MovingPlaces x = world(0, 0, 0, 1);
            x.thread(0, 40L);
            x.thread(1, 11L);
            x.thread(1, 11L);
            dueRow(x, 1, 2, 1);
            MovingPlaces y = world(0, 0, 0, 1, 0, 2);
            y.thread(2, 12L);
            y.thread(1, 11L);
            dueRow(y, 1, 3, 1, 0);
            MovingPlaces z = world(0, 0, 0, 1, 1, 2, 2, 3);
            z.thread(0, 30L);
            z.thread(3, 2011L);
            z.thread(3, 11L);
            dueRow(z, 3, 2, 0, 2);
            MovingPlaces w = world(0, 0, 0, 1);
            w.thread(1, 4011L);
            w.thread(1, 4011L);
            dueRow(w, 1, 2, 0, 0);
            w.thread(1, 11L);
            dueRow(w, 1, 2, 2);
            MovingPlaces v = world(0, 0, 0, 1);
            v.thread(1, 40404011L);
            v.thread(1, 404011L);
            dueRow(v, 1, 2, 1, 1, 1);
            MovingPlaces u = world(0, 0, 0, 1, 0, 2, 0, 3);
            u.thread(2, 12L);
            u.thread(3, 13L);
            u.thread(1, 11L);
            u.thread(1, 13L);
            dueRow(u, 1, 4, 3);
            u.thread(4, 12L);
            dueRow(u, 2, 4, 0, 1);
        });
        says("NONE: not by 3, there are fewer.", () -> {
            dueNoRow(worldOfActs(40404011L), 1, 2);
            dueNoRow(worldOfActs(10L), 1, 2);
            dueNoRow(world(0, 0, 0, 1), 1, 2);
            MovingPlaces x = worldOfActs(4011L);
            due("two: the second", x.soonest(1, 2, 1), 1);
            due("two: no third", x.soonest(1, 2, 2), NONE);
            due("by none: no first", x.soonest(1, 0, 0), NONE);
            due("by none: no third", x.soonest(1, 0, 2), NONE);
            MovingPlaces y = world(0, 0, 0, 1, 1, 2);
            y.thread(1, 32L);
            y.thread(0, 30L);
            y.thread(0, 31L);
            dueNoRow(y, 3, 2);
            dueNoRow(y, 1, 2);
            y.thread(1, 11L);
            dueRow(y, 3, 2, 3);
            MovingPlaces z = world(0, 0, 0, 1, 1, 2);
            z.thread(1, 3211L);
            dueRow(z, 1, 2, 0, 0);
            dueNoRow(z, 3, 2);
        });
    }

    private static void promise14() {
        part = "Promise 14";
        says("NAMES that MAY BE SAID, as a set.", () -> {
            due("none", world().said(), 0);
            due("a place's name is none", world(0, 3).said(), 0);
            MovingPlaces x = world();
            x.thread(0, 404142434445L);
            due("all six", x.said(), 63);
            x.rounds(50);
            due("all six as messages", x.said(), 63);
            x.thread(0, 505050505050L);
            x.rounds(50);
            due("the last that was heard", x.said(), set(5));
        });
    }

    private static void promise15() {
        part = "Promise 15";
        says("NAMES that MOVE, as a set.", () -> {
            due("none", world().moves(), 0);
            MovingPlaces x = world(0, 0, 0, 1, 0, 2, 0, 3, 0, 4, 0, 5);
            due("no threads", x.moves(), 0);
            for (int p = 1; p <= 6; p++) {
                x.thread(p, p % 2 == 0 ? 10L : 20L);
            }
            due("all six", x.moves(), 63);
            due("asking changes nothing", x.moves(), 63);
        });
    }

    private static void promise16And17() {
        part = "Promise 16";
        says("THE IMAGE is taken: 1.", () -> {
            MovingPlaces x = world(0, 0);
            due("the first", x.keep(), 1);
            due("there is one", x.many(5), 1);
            due("one more", x.keep(), 1);
            due("there is one", x.many(5), 1);
            due("nothing else is changed", x.many(3), 2);
        });
        part = "Promise 17";
        says("All becomes as in THE IMAGE (that stays): 1.", () -> {
            String image = imageOf(worldForRefusals());
            MovingPlaces x = worldForRefusals();
            x.restore();
            x.rounds(50);
            x.seal(1, SEALED);
            x.message(1, 1);
            due("once more", x.restore(), 1);
            dueText("as in the image", all(x), image);
            MovingPlaces y = world(0, 0);
            y.keep();
            y.place(0, 1);
            y.thread(2, 40L);
            due("places that came since are not there", y.restore(), 1);
            due("one place", y.many(3), 2);
            due("no thread", y.many(1), 0);
            due("no such place", y.ofPlace(2, 0), UNKNOWN);
            due("no such thread", y.ofThread(0, 0), UNKNOWN);
            due("there still is one", y.many(5), 1);
            due("the same again", y.restore(), 1);
            MovingPlaces z = world(0, 0);
            z.keep();
            z.thread(0, 30L);
            z.act(0);
            z.restore();
            due("one that was gone is there", z.ofPlace(1, 0), 0);
            z.restore();
            z.message(1, 0);
            z.restore();
            due("what comes behind it does not touch the image", z.many(4), 0);
        });
        says("STATE: there is none.", () -> {
            MovingPlaces x = world(0, 0);
            due("none", x.restore(), STATE);
            due("again", x.restore(), STATE);
            due("all stays", x.many(3), 2);
            x.keep();
            due("one", x.restore(), 1);
        });
    }

    private static String imageOf(MovingPlaces x) {
        x.restore();
        return all(x);
    }

    private static void promise18() {
        part = "Promise 18";
        says("How many: 0 PLACES that are not GONE (the GROUND, too)", () -> {
            due("the ground alone", world().many(0), 1);
            due("twelve", deepest().many(0), 12);
            MovingPlaces x = deepest();
            x.thread(0, 303132333435L);
            x.thread(0, 303132333435L);
            due("open six, then five", x.rounds(50), 11);
            due("the ground alone is left", x.many(0), 1);
        });
        says("1 THREADS, 2 those that are OVER", () -> {
            MovingPlaces x = world(0, 0);
            times(11, () -> x.thread(1, 4040L));
            x.thread(1, 50L);
            due("twelve", x.many(1), 12);
            due("none is over", x.many(2), 0);
            x.rounds(1);
            due("those that did one of two are not", x.many(2), 1);
            x.rounds(1);
            due("all are", x.many(2), 12);
            due("and count", x.many(1), 12);
        });
        says("3 PLACES that came at all", () -> {
            due("the ground", world().many(3), 1);
            MovingPlaces x = worldWithGone();
            due("one that is gone came, too", x.many(3), 4);
            due("twelve", deepest().many(3), 12);
        });
        says("4 MESSAGES of all PLACES that are not GONE", () -> {
            MovingPlaces x = world(0, 0, 1, 1);
            due("none", x.many(4), 0);
            x.message(0, 0);
            x.message(1, 5);
            times(90, () -> x.message(2, 3));
            due("of all places and names", x.many(4), 92);
            x.thread(1, 3150L);
            x.act(0);
            due("those of one that is gone are another's, none is twice", x.many(4), 92);
            x.act(0);
            due("one was heard", x.many(4), 91);
        });
        says("5 whether there is an IMAGE (1, 0).", () -> {
            MovingPlaces x = world();
            due("none", x.many(5), 0);
            x.restore();
            due("none by a refused call", x.many(5), 0);
            x.keep();
            due("one", x.many(5), 1);
            x.restore();
            due("it stays", x.many(5), 1);
        });
        says("OUTSIDE.", () -> {
            int[] wrong = {Integer.MIN_VALUE, -9, -1, 6, 7, 10, 32, 37, 256, Integer.MAX_VALUE};
            for (int what : wrong) {
                due("what " + what, worldForRefusals().many(what), OUTSIDE);
            }
        });
    }

    // ---- the words and the document

    private static void wordsAreTheDocuments() throws IOException {
        if (!Files.exists(DOCUMENT)) {
            System.out.println(DOCUMENT + " is not there: the words are not held against it");
            return;
        }
        for (String section : Files.readString(DOCUMENT).split("(?m)^## ")) {
            String heading = section.lines().findFirst().orElse("");
            part = heading.split(":")[0];
            List<String> quotes = TESTED.remove(part);
            if (part.equals("Terms") || part.startsWith("Promise ")) {
                dueAllTold(promised(section), quotes == null ? List.of() : quotes);
            } else if (quotes != null) {
                quotes.forEach(quote -> due("in the document: " + quote, promised(section).indexOf(quote) < 0 ? 0 : 1, 1));
            }
        }
        part = "document";
        words = "";
        due("parts that are not there: " + TESTED.keySet(), TESTED.size(), 0);
    }

    /** What a section says, without its heading, the face of the call, the marks, and the interface's own headings. */
    private static String promised(String section) {
        return section.replaceFirst("^[^\n]*\n", "").replaceAll("(?m)^Ahead of the calls .*$", "")
            .replaceAll("(?m)^```.*$", "").replaceAll("(?m)^==== \\d ", "").replaceAll("(?m)^`[^`]*`: ", "")
            .replaceAll("\\s+", " ");
    }

    private static void dueAllTold(String text, List<String> quotes) {
        boolean[] told = new boolean[text.length()];
        for (String quote : quotes) {
            words = quote;
            due("these words in the document", text.contains(quote) ? 1 : 0, 1);
            for (int at = text.indexOf(quote); at >= 0; at = text.indexOf(quote, at + 1)) {
                Arrays.fill(told, at, at + quote.length(), true);
            }
        }
        StringBuilder rest = new StringBuilder();
        for (int i = 0; i < told.length; i++) {
            rest.append(told[i] ? '|' : text.charAt(i));
        }
        for (String untold : rest.toString().split("\\|+")) {
            words = untold.trim();
            due("words without a test", words.matches(".*[A-Za-z0-9].*") ? 1 : 0, 0);
        }
    }
}
