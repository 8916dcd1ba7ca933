import java.util.ArrayList;
import java.util.List;
import java.util.Random;
import java.util.TreeSet;

/** Long runs of calls, each answer compared with that of a second model, written another way. */
public final class ModelTest {
    private static final int RUNS = 1500;
    private static final int CALLS = 512;
    private static final int MOST_TOLD = 20;

    private static int passed = 0;
    private static int failed = 0;

    public static void main(String[] args) {
        for (int run = 0; run < RUNS; run++) {
            new Run(run).play();
        }
        System.out.println(passed + " passed, " + failed + " failed");
        if (failed != 0) {
            System.exit(1);
        }
    }

    /** One run of calls on a new object and a new model. */
    private static final class Run {
        private final int number;
        private final Random random;
        private final MovingPlaces real = new MovingPlaces();
        private Model model = new Model();
        private Model image = null;
        private int calls = 0;
        private final int names;

        Run(int number) {
            this.number = number;
            this.random = new Random(number * 7919L + 17);
            this.names = 1 + random.nextInt(6);
        }

        void play() {
            int prelude = 10 + random.nextInt(40);
            for (int i = 0; i < prelude; i++) {
                build(random.nextInt(7));
            }
            lookAtAll();
            if (random.nextInt(4) != 0) {
                keep();
            }
            while (calls < CALLS) {
                int pick = random.nextInt(100);
                if (pick < 5) {
                    build(random.nextInt(7));
                } else if (pick < 30) {
                    act();
                } else if (pick < 33) {
                    rounds();
                } else if (pick < 50) {
                    search();
                } else if (pick < 51) {
                    keep();
                } else if (pick < 57) {
                    restore();
                } else {
                    look();
                }
            }
            lookAtAll();
        }

        private void due(String call, int got, int want) {
            calls++;
            if (got == want) {
                passed++;
                return;
            }
            failed++;
            if (failed <= MOST_TOLD) {
                System.out.println("run " + number + ", call " + calls + ": " + call + " answered " + got + ", due is " + want);
            }
        }

        /** A number from 0 on below the limit, mostly; sometimes one beside that. */
        private int about(int limit) {
            int pick = random.nextInt(40);
            if (pick == 0) {
                return -1 - random.nextInt(10);
            }
            if (pick == 1) {
                return limit + random.nextInt(10);
            }
            return random.nextInt(Math.max(1, limit));
        }

        private int aPlace() {
            return about(model.places.size());
        }

        private int aThread() {
            return about(model.threads.size());
        }

        private int aName() {
            return random.nextInt(30) == 0 ? about(6) : random.nextInt(names);
        }

        private long someActs(int p) {
            if (random.nextInt(25) == 0) {
                return random.nextInt(3) == 0 ? random.nextLong() : random.nextInt(20000) - 2000;
            }
            long acts = 0;
            int count = 1 + random.nextInt(random.nextInt(20) == 0 ? 7 : 6);
            for (int i = 0; i < count; i++) {
                acts = acts * 100 + (random.nextInt(3) == 0 ? anAct() : aFittingAct(p));
            }
            return acts;
        }

        private int anAct() {
            int kind = 1 + random.nextInt(5);
            if (kind == 5) {
                return 50;
            }
            return kind * 10 + (random.nextInt(5) == 0 ? 9 : random.nextInt(names));
        }

        /** An act that finds its place as all is now, if there is one: else most rows would end at once. */
        private int aFittingAct(int p) {
            Place place = model.find(p);
            if (place == null) {
                return anAct();
            }
            List<Integer> fitting = new ArrayList<>();
            if (place.parent != null) {
                model.inside(place.parent).forEach(q -> fitting.add(10 + q.name));
            }
            if (place.parent != null && place.parent.parent != null) {
                fitting.add(20 + place.parent.name);
            }
            model.inside(place).forEach(q -> fitting.add(30 + q.name));
            return fitting.isEmpty() ? anAct() : fitting.get(random.nextInt(fitting.size()));
        }

        private void build(int pick) {
            if (pick == 0 || pick == 4) {
                int in = aPlace();
                int name = aName();
                due("place(" + in + ", " + name + ")", real.place(in, name), model.place(in, name));
            } else if (pick == 1 || pick == 5 || pick == 6) {
                int p = aPlace();
                long acts = someActs(p);
                due("thread(" + p + ", " + acts + ")", real.thread(p, acts), model.thread(p, acts));
            } else if (pick == 2) {
                int p = aPlace();
                boolean is = random.nextInt(4) == 0;
                due("seal(" + p + ", " + is + ")", real.seal(p, is), model.seal(p, is));
            } else {
                int p = aPlace();
                int name = aName();
                int times = random.nextInt(60) == 0 ? 95 : 1;
                for (int i = 0; i < times; i++) {
                    due("message(" + p + ", " + name + ")", real.message(p, name), model.message(p, name));
                }
            }
        }

        private void act() {
            int can = model.can();
            int t = aThread();
            for (int tries = 0; tries < 20 && random.nextInt(8) != 0 && can != 0 && (can >> t & 1) == 0; tries++) {
                t = random.nextInt(model.threads.size());
            }
            due("act(" + t + ")", real.act(t), model.act(t));
        }

        private void rounds() {
            int most = random.nextInt(4) == 0 ? about(54) : 1 + random.nextInt(2);
            due("rounds(" + most + ")", real.rounds(most), model.rounds(most));
        }

        private void search() {
            if (random.nextInt(4) == 0) {
                int n = random.nextInt(10) == 0 ? about(4) : random.nextInt(4);
                due("rows(" + n + ")", real.rows(n), model.rows(n));
                return;
            }
            int p = aPlace();
            int q = aPlace();
            if (random.nextInt(5) == 0) {
                int k = about(5) - 2;
                due("soonest(" + p + ", " + q + ", " + k + ")", real.soonest(p, q, k), model.soonest(p, q, k));
                return;
            }
            for (int k = -1; k <= 2; k++) {
                due("soonest(" + p + ", " + q + ", " + k + ")", real.soonest(p, q, k), model.soonest(p, q, k));
            }
        }

        private void keep() {
            due("keep()", real.keep(), 1);
            image = new Model(model);
        }

        private void restore() {
            due("restore()", real.restore(), image == null ? -3 : 1);
            model = image == null ? model : new Model(image);
            lookAtAll();
        }

        private void look() {
            int p = aPlace();
            int q = aPlace();
            int t = aThread();
            int what = random.nextInt(20) - 2;
            switch (random.nextInt(7)) {
                case 0 -> due("ofPlace(" + p + ", " + what + ")", real.ofPlace(p, what), model.ofPlace(p, what));
                case 1 -> due("ofThread(" + t + ", " + what + ")", real.ofThread(t, what), model.ofThread(t, what));
                case 2 -> due("within(" + p + ", " + q + ")", real.within(p, q), model.within(p, q));
                case 3 -> due("can()", real.can(), model.can());
                case 4 -> due("said()", real.said(), model.said());
                case 5 -> due("moves()", real.moves(), model.moves());
                default -> due("many(" + what + ")", real.many(what), what == 5 ? (image == null ? 0 : 1) : model.many(what));
            }
        }

        private void lookAtAll() {
            int before = calls;
            for (int p = -1; p <= 12; p++) {
                for (int what = -1; what <= 16; what++) {
                    due("ofPlace(" + p + ", " + what + ")", real.ofPlace(p, what), model.ofPlace(p, what));
                }
                for (int q = -1; q <= 12; q++) {
                    due("within(" + p + ", " + q + ")", real.within(p, q), model.within(p, q));
                }
                for (int what = -1; what <= 5; what++) {
                    due("ofThread(" + p + ", " + what + ")", real.ofThread(p, what), model.ofThread(p, what));
                }
            }
            due("can()", real.can(), model.can());
            due("said()", real.said(), model.said());
            due("moves()", real.moves(), model.moves());
            // Looking is not part of the run's 512 calls: it is here to see the state, not to reach a limit.
            calls = before;
        }
    }

    /** A place as a node of a tree; those that are gone have no parent and are marked. */
    private static final class Place {
        final int number;
        final int name;
        Place parent;
        boolean sealed;
        boolean gone;
        final List<Integer> messages = new ArrayList<>();

        Place(int number, int name, Place parent) {
            this.number = number;
            this.name = name;
            this.parent = parent;
        }
    }

    /** A thread with the acts that are left to it, as texts of two digits. */
    private static final class Thread {
        Place place;
        final List<String> left = new ArrayList<>();
        int done = 0;
        int heard = -9;
    }

    private static final class Model {
        final List<Place> places = new ArrayList<>();
        final List<Thread> threads = new ArrayList<>();

        Model() {
            places.add(new Place(0, -9, null));
        }

        Model(Model other) {
            for (Place p : other.places) {
                Place copy = new Place(p.number, p.name, null);
                copy.sealed = p.sealed;
                copy.gone = p.gone;
                copy.messages.addAll(p.messages);
                places.add(copy);
            }
            for (Place p : other.places) {
                places.get(p.number).parent = p.parent == null ? null : places.get(p.parent.number);
            }
            for (Thread t : other.threads) {
                Thread copy = new Thread();
                copy.place = places.get(t.place.number);
                copy.left.addAll(t.left);
                copy.done = t.done;
                copy.heard = t.heard;
                threads.add(copy);
            }
        }

        Place find(int p) {
            for (Place place : places) {
                if (place.number == p && !place.gone) {
                    return place;
                }
            }
            return null;
        }

        int place(int in, int name) {
            Place outer = find(in);
            if (outer == null || name < 0 || name > 5) {
                return -1;
            }
            if (places.size() == 12) {
                return -4;
            }
            places.add(new Place(places.size(), name, outer));
            return places.size() - 1;
        }

        int thread(int p, long acts) {
            if (find(p) == null) {
                return -1;
            }
            String text = Long.toString(acts);
            if (!text.matches("([1-4][0-59]|50){1,6}")) {
                return -2;
            }
            if (threads.size() == 12) {
                return -4;
            }
            Thread t = new Thread();
            t.place = find(p);
            for (int i = 0; i < text.length(); i += 2) {
                t.left.add(text.substring(i, i + 2));
            }
            threads.add(t);
            return threads.size() - 1;
        }

        int seal(int p, boolean is) {
            Place place = find(p);
            if (place == null) {
                return -1;
            }
            if (p == 0) {
                return -3;
            }
            boolean was = place.sealed;
            place.sealed = is;
            return was == is ? 0 : 1;
        }

        int count(Place place, int name) {
            return (int) place.messages.stream().filter(m -> m == name).count();
        }

        int message(int p, int name) {
            Place place = find(p);
            if (place == null || name < 0 || name > 5) {
                return -1;
            }
            if (count(place, name) >= 90) {
                return -4;
            }
            place.messages.add(name);
            return count(place, name);
        }

        List<Place> inside(Place outer) {
            return places.stream().filter(p -> !p.gone && p.parent == outer).toList();
        }

        int ofPlace(int p, int what) {
            Place place = find(p);
            if (place == null) {
                return -1;
            }
            if (what == 0) {
                return place.name;
            }
            if (what == 1) {
                return place.parent == null ? -9 : place.parent.number;
            }
            if (what == 2) {
                return place.sealed ? 1 : 0;
            }
            if (what == 3) {
                return inside(place).stream().mapToInt(q -> 1 << q.number).sum();
            }
            if (what == 4) {
                int set = 0;
                for (int t = 0; t < threads.size(); t++) {
                    set += threads.get(t).place == place ? 1 << t : 0;
                }
                return set;
            }
            if (what == 5) {
                int depth = 0;
                for (Place at = place; at.parent != null; at = at.parent) {
                    depth++;
                }
                return depth;
            }
            return what >= 10 && what <= 15 ? count(place, what - 10) : -2;
        }

        int ofThread(int number, int what) {
            if (number < 0 || number >= threads.size()) {
                return -1;
            }
            Thread t = threads.get(number);
            if (what == 0) {
                return t.place.number;
            }
            if (what == 1) {
                return t.done;
            }
            if (what == 2) {
                return t.done + t.left.size();
            }
            if (what == 3) {
                return t.heard;
            }
            if (what == 4) {
                return t.left.isEmpty() ? -9 : Integer.parseInt(t.left.get(0));
            }
            return -2;
        }

        boolean isWithin(Place p, Place q) {
            if (p == null || q == null || p.parent == null) {
                return false;
            }
            return p.parent == q || isWithin(p.parent, q);
        }

        int within(int p, int q) {
            if (find(p) == null || find(q) == null) {
                return -1;
            }
            return isWithin(find(p), find(q)) ? 1 : 0;
        }

        /** Tries the next act of a thread: its kind, or 0 if it can't be done. */
        int attempt(int number) {
            Thread t = threads.get(number);
            if (t.left.isEmpty()) {
                return 0;
            }
            String act = t.left.get(0);
            int name = act.charAt(1) == '9' ? t.heard : act.charAt(1) - '0';
            if (name < 0) {
                return 0;
            }
            boolean done = switch (act.charAt(0)) {
                case '1' -> goIn(t.place, name);
                case '2' -> goOut(t.place, name);
                case '3' -> open(t.place, name);
                case '4' -> t.place.messages.add(name);
                default -> hear(t);
            };
            if (!done) {
                return 0;
            }
            t.left.remove(0);
            t.done++;
            return act.charAt(0) - '0';
        }

        Place leastFree(Place outer, int name, Place not) {
            return inside(outer).stream().filter(q -> q != not && q.name == name && !q.sealed).findFirst().orElse(null);
        }

        boolean goIn(Place p, int name) {
            Place target = p.parent == null ? null : leastFree(p.parent, name, p);
            if (target != null) {
                p.parent = target;
            }
            return target != null;
        }

        boolean goOut(Place p, int name) {
            boolean free = p.parent != null && p.parent.name == name && !p.parent.sealed;
            if (free) {
                p.parent = p.parent.parent;
            }
            return free;
        }

        boolean open(Place p, int name) {
            Place target = leastFree(p, name, null);
            if (target == null) {
                return false;
            }
            for (Place q : inside(target)) {
                q.parent = p;
            }
            for (Thread t : threads) {
                if (t.place == target) {
                    t.place = p;
                }
            }
            p.messages.addAll(target.messages);
            target.messages.clear();
            target.gone = true;
            target.parent = null;
            return true;
        }

        boolean hear(Thread t) {
            if (t.place.messages.isEmpty()) {
                return false;
            }
            Integer least = new TreeSet<>(t.place.messages).first();
            t.place.messages.remove(least);
            t.heard = least;
            return true;
        }

        boolean canAct(int t) {
            return new Model(this).attempt(t) != 0;
        }

        int can() {
            int set = 0;
            for (int t = 0; t < threads.size(); t++) {
                set += canAct(t) ? 1 << t : 0;
            }
            return set;
        }

        int act(int t) {
            if (t < 0 || t >= threads.size()) {
                return -1;
            }
            int kind = attempt(t);
            return kind == 0 ? -3 : kind;
        }

        int rounds(int most) {
            if (most < 1 || most > 50) {
                return -2;
            }
            int all = 0;
            for (int round = 0; round < most; round++) {
                for (int t = 0; t < threads.size(); t++) {
                    all += attempt(t) == 0 ? 0 : 1;
                }
            }
            return all;
        }

        /** The worlds after all rows of that length, in the order of the rows, with the rows. */
        List<Reached> reached(int length) {
            List<Reached> now = new ArrayList<>();
            now.add(new Reached(new Model(this), List.of()));
            for (int i = 0; i < length; i++) {
                List<Reached> next = new ArrayList<>();
                for (Reached r : now) {
                    r.addFollowers(next);
                }
                now = next;
            }
            return now;
        }

        int rows(int n) {
            return n < 0 || n > 3 ? -2 : reached(n).size();
        }

        int soonest(int p, int q, int k) {
            if (find(p) == null || find(q) == null) {
                return -1;
            }
            if (k < -1 || k > 2) {
                return -2;
            }
            if (p == q) {
                return -3;
            }
            for (int length = 0; length <= 3; length++) {
                for (Reached r : reached(length)) {
                    if (r.world.within(p, q) == 1) {
                        return k == -1 ? length : k < length ? r.row.get(k) : -9;
                    }
                }
            }
            return -9;
        }

        TreeSet<Integer> sayable() {
            TreeSet<Integer> names = new TreeSet<>();
            for (Place p : places) {
                names.addAll(p.messages);
            }
            for (Thread t : threads) {
                names.add(t.heard);
                for (String act : t.left) {
                    if (act.charAt(0) == '4') {
                        names.add(act.charAt(1) - '0');
                    }
                }
            }
            names.remove(9);
            names.remove(-9);
            return names;
        }

        int said() {
            return sayable().stream().mapToInt(n -> 1 << n).sum();
        }

        int moves() {
            TreeSet<Integer> moving = new TreeSet<>();
            boolean more = true;
            while (more) {
                more = false;
                for (Thread t : threads) {
                    if (t.place.name >= 0 && t.left.stream().anyMatch(act -> isMotion(act, moving))) {
                        more |= moving.add(t.place.name);
                    }
                }
            }
            return moving.stream().mapToInt(n -> 1 << n).sum();
        }

        boolean isMotion(String act, TreeSet<Integer> moving) {
            if (act.charAt(0) == '1' || act.charAt(0) == '2') {
                return true;
            }
            if (act.equals("39")) {
                return sayable().stream().anyMatch(moving::contains);
            }
            return act.charAt(0) == '3' && moving.contains(act.charAt(1) - '0');
        }

        int many(int what) {
            return switch (what) {
                case 0 -> (int) places.stream().filter(p -> !p.gone).count();
                case 1 -> threads.size();
                case 2 -> (int) threads.stream().filter(t -> t.left.isEmpty()).count();
                case 3 -> places.size();
                case 4 -> places.stream().filter(p -> !p.gone).mapToInt(p -> p.messages.size()).sum();
                default -> -2;
            };
        }
    }

    /** A world that a row of threads led to. */
    private record Reached(Model world, List<Integer> row) {
        void addFollowers(List<Reached> all) {
            for (int t = 0; t < world.threads.size(); t++) {
                Model next = new Model(world);
                if (next.attempt(t) != 0) {
                    List<Integer> longer = new ArrayList<>(row);
                    longer.add(t);
                    all.add(new Reached(next, longer));
                }
            }
        }
    }
}
