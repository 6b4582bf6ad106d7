import java.util.Random;

/** Random runs, with fixed seeds, of the program beside the model: each answer is to be the same. */
public final class ModelTest {
    private static final int RUNS = 1200;
    private static final int CALLS = 512;
    private static final String[] NAMES = {
        "push", "pop", "make", "set", "get", "put", "swap", "hash", "pin", "unpin", "take", "minor", "full", "start",
        "step", "finish", "tenure", "at", "field", "ofObject", "many", "isDirty", "queue", "meanSize", "isReachable",
        "wouldFree", "held", "addressFor", "digest"};

    /** How often each call is made, by the kind of the run. */
    private static final int[][] WEIGHTS = {
        {4, 3, 60, 60, 15, 25, 15, 8, 6, 4, 4, 12, 3, 4, 10, 2, 1, 2, 4, 4, 4, 2, 2, 2, 3, 3, 3, 3, 6},
        {2, 2, 90, 90, 10, 10, 10, 20, 12, 8, 6, 6, 1, 8, 20, 3, 2, 1, 2, 2, 2, 1, 1, 1, 2, 2, 4, 2, 8},
        {6, 5, 40, 80, 30, 30, 30, 10, 3, 3, 8, 25, 6, 6, 12, 6, 1, 1, 2, 2, 2, 1, 1, 1, 2, 2, 6, 2, 8},
        {1, 1, 12, 70, 20, 20, 20, 10, 8, 3, 3, 3, 1, 3, 6, 1, 1, 3, 3, 3, 3, 3, 3, 3, 6, 6, 12, 3, 6},
        {9, 2, 80, 80, 20, 5, 25, 9, 5, 3, 2, 9, 2, 5, 9, 2, 1, 1, 1, 1, 1, 1, 1, 1, 1, 1, 1, 1, 9},
    };
    private static final int[] EXTREMES = {
        Integer.MIN_VALUE, Integer.MIN_VALUE + 1, -2, 4, 8, 16, 20, 21, 50, 51, 200, 10, Integer.MAX_VALUE};

    /** The calls of the program, or of the model, by their names; an answer of any type as a long. */
    private interface Face {
        long call(String name, int[] a, boolean flag);
    }

    private ModelTest() { }

    public static void main(String[] args) {
        int first = args.length > 0 ? Integer.parseInt(args[0]) : 0;
        int runs = args.length > 1 ? Integer.parseInt(args[1]) : RUNS;
        int wrong = 0;
        for (int seed = first; seed < first + runs && wrong < 3; seed++) {
            wrong += run(seed) ? 0 : 1;
        }
        System.out.println(wrong == 0 ? runs + " runs answer as the model does" : wrong + " runs went wrong");
        if (wrong != 0) {
            System.exit(1);
        }
    }

    private static boolean run(int seed) {
        Random random = new Random(seed);
        int[] weights = WEIGHTS[seed % WEIGHTS.length];
        HeapModel model = new HeapModel();
        Face due = faceOf(model);
        Face got = faceOf(new Tenuredale());
        StringBuilder told = new StringBuilder();
        for (int call = 0; call < CALLS; call++) {
            String name = call == CALLS - 1 ? "digest" : pick(random, weights);
            int[] a = arguments(name, random, model, seed);
            boolean flag = random.nextInt(3) > 0;
            String answer = answer(got, name, a, flag);
            told.append(name).append('(').append(a[0]).append(", ").append(a[1]).append(", ").append(a[2])
                .append(", ").append(flag).append(") = ").append(answer).append('\n');
            String wanted = answer(due, name, a, flag);
            if (!answer.equals(wanted)) {
                System.out.println("run " + seed + ", call " + call + ":\n" + told + "due is " + wanted);
                return false;
            }
        }
        return true;
    }

    private static String pick(Random random, int[] weights) {
        int total = 0;
        for (int weight : weights) {
            total += weight;
        }
        int rest = random.nextInt(total);
        int which = 0;
        while (rest >= weights[which]) {
            rest -= weights[which];
            which++;
        }
        return NAMES[which];
    }

    private static int[] arguments(String name, Random random, HeapModel model, int seed) {
        int[] a = {random.nextInt(4), random.nextInt(4), random.nextInt(4)};
        int made = model.many(0);
        switch (name) {
            case "make":
                a[1] = kind(random, seed);
                a[2] = fields(random, seed);
                break;
            case "set":
                a[1] = model.fieldsIn(a[0]) > 0 ? random.nextInt(model.fieldsIn(a[0])) : random.nextInt(3);
                a[2] = random.nextInt(6) == 0 ? -1 : a[2];
                break;
            case "get":
                a[1] = model.fieldsIn(a[0]) > 0 ? random.nextInt(model.fieldsIn(a[0])) : random.nextInt(3);
                break;
            case "put":
                a[1] = random.nextInt(3) > 0 ? -1 : a[1];
                break;
            case "step":
                a[0] = random.nextInt(8) == 0 ? 1 + random.nextInt(50) : 1 + random.nextInt(4);
                break;
            case "tenure":
                a[0] = 1 + random.nextInt(random.nextInt(3) == 0 ? 9 : 3);
                break;
            case "field", "ofObject", "isReachable", "held":
                a[0] = made == 0 ? 0 : Math.max(0, made - 1 - random.nextInt(random.nextBoolean() ? made : 1 + made / 4));
                a[1] = random.nextInt(8);
                break;
            case "many":
                a[0] = random.nextInt(16);
                break;
            case "isDirty", "addressFor":
                a[0] = random.nextInt(21);
                break;
            default:
                break;
        }
        if (random.nextInt(25) == 0) {
            a[random.nextInt(3)] = EXTREMES[random.nextInt(EXTREMES.length)];
        }
        if (random.nextInt(40) == 0) {
            a[random.nextInt(3)] = -1;
        }
        return a;
    }

    /** Each run is rich in one KIND, so that its OBJECTS meet each other. */
    private static int kind(Random random, int seed) {
        int roll = random.nextInt(6);
        return roll < 2 ? 0 : roll < 4 ? seed / 5 % 5 : random.nextInt(5);
    }

    private static int fields(Random random, int seed) {
        int most = new int[] {4, 6, 3, 2}[seed % 4];
        int roll = random.nextInt(20);
        if (roll == 0) {
            return 12 + random.nextInt(9);
        }
        return roll == 1 ? random.nextInt(12) : random.nextInt(most + 1);
    }

    private static String answer(Face face, String name, int[] a, boolean flag) {
        try {
            return Long.toString(face.call(name, a, flag));
        } catch (RuntimeException e) {
            return "throws." + e.getClass().getName();
        }
    }

    private static Face faceOf(Tenuredale x) {
        return (name, a, flag) -> switch (name) {
            case "push" -> x.push();
            case "pop" -> x.pop();
            case "make" -> x.make(a[0], a[1], a[2]);
            case "set" -> x.set(a[0], a[1], a[2]);
            case "get" -> x.get(a[0], a[1], a[2]);
            case "put" -> x.put(a[0], a[1]);
            case "swap" -> x.swap(a[0], a[1]);
            case "hash" -> x.hash(a[0]);
            case "pin" -> x.pin(a[0]) ? 1 : 0;
            case "unpin" -> x.unpin(a[0]) ? 1 : 0;
            case "take" -> x.take(a[0]);
            case "minor" -> x.minor();
            case "full" -> x.full(flag);
            case "start" -> x.start();
            case "step" -> x.step(a[0]);
            case "finish" -> x.finish();
            case "tenure" -> x.tenure(a[0]);
            case "at" -> x.at(a[0]);
            case "field" -> x.field(a[0], a[1]);
            case "ofObject" -> x.ofObject(a[0], a[1]);
            case "many" -> x.many(a[0]);
            case "isDirty" -> x.isDirty(a[0]) ? 1 : 0;
            case "queue" -> x.queue(a[0]);
            case "meanSize" -> Double.doubleToLongBits(x.meanSize());
            case "isReachable" -> x.isReachable(a[0]) ? 1 : 0;
            case "wouldFree" -> x.wouldFree(flag);
            case "held" -> x.held(a[0]);
            case "addressFor" -> x.addressFor(a[0]);
            default -> x.digest();
        };
    }

    private static Face faceOf(HeapModel x) {
        return (name, a, flag) -> switch (name) {
            case "push" -> x.push();
            case "pop" -> x.pop();
            case "make" -> x.make(a[0], a[1], a[2]);
            case "set" -> x.set(a[0], a[1], a[2]);
            case "get" -> x.get(a[0], a[1], a[2]);
            case "put" -> x.put(a[0], a[1]);
            case "swap" -> x.swap(a[0], a[1]);
            case "hash" -> x.hash(a[0]);
            case "pin" -> x.pin(a[0]) ? 1 : 0;
            case "unpin" -> x.unpin(a[0]) ? 1 : 0;
            case "take" -> x.take(a[0]);
            case "minor" -> x.minor();
            case "full" -> x.full(flag);
            case "start" -> x.start();
            case "step" -> x.step(a[0]);
            case "finish" -> x.finish();
            case "tenure" -> x.tenure(a[0]);
            case "at" -> x.at(a[0]);
            case "field" -> x.field(a[0], a[1]);
            case "ofObject" -> x.ofObject(a[0], a[1]);
            case "many" -> x.many(a[0]);
            case "isDirty" -> x.isDirty(a[0]) ? 1 : 0;
            case "queue" -> x.queue(a[0]);
            case "meanSize" -> Double.doubleToLongBits(x.meanSize());
            case "isReachable" -> x.isReachable(a[0]) ? 1 : 0;
            case "wouldFree" -> x.wouldFree(flag);
            case "held" -> x.held(a[0]);
            case "addressFor" -> x.addressFor(a[0]);
            default -> x.digest();
        };
    }
}
