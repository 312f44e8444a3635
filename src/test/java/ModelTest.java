import java.util.Random;
import java.util.TreeMap;

/** All promises: long random runs, each answer compared with the model's. */
public final class ModelTest {
    private static final int RUNS = Integer.getInteger("runs", 1500);
    private static final int CALLS = 512;
    private static final String[] CALL_NAMES = {"kind", "wall", "flag", "cart", "card", "damage", "phase", "round",
        "cellOf", "cartOf", "cardOf", "turn", "would", "best", "steps", "count", "undo", "type", "clearText",
        "fault", "play"};
    /** How often each call comes, in the order of the names. */
    private static final int[] WEIGHTS = {5, 3, 3, 3, 16, 3, 12, 2, 5, 10, 4, 4, 6, 6, 5, 6, 2, 12, 1, 4, 2};

    private final Random random;
    private final LockedCarts x = new LockedCarts();
    private final Model model = new Model();
    private final StringBuilder told = new StringBuilder();
    private final TreeMap<String, Integer> seen;
    private final int[] home;
    /** What is still to be typed. */
    private String pending = "";

    private ModelTest(long seed, TreeMap<String, Integer> seen) {
        random = new Random(seed);
        this.seen = seen;
        // Carts near each other meet; some runs use the whole board.
        int corner = random.nextInt(64);
        int size = random.nextInt(4) == 0 ? 8 : 2 + random.nextInt(3);
        home = new int[] {corner % 8, corner / 8, size};
    }

    public static void main(String[] args) {
        TreeMap<String, Integer> seen = new TreeMap<>();
        for (int seed = 1; seed <= RUNS; seed++) {
            if (!new ModelTest(seed, seen).run(seed)) {
                break;
            }
        }
        coverage(seen);
        Check.finish();
    }

    /** Each call must have come often, and answered each error that it can give (the digits behind its name). */
    private static void coverage(TreeMap<String, Integer> seen) {
        String[] errors = {"kind 12", "wall 1", "flag 12", "cart 123", "card 12", "damage 12", "phase 2", "round 2",
            "cellOf 14", "cartOf 14", "cardOf 14", "turn 14", "would 14", "best 124", "steps 14", "count 14",
            "undo 2", "type 13", "clearText", "fault 14", "play 2"};
        for (String entry : errors) {
            String name = entry.split(" ")[0];
            often(seen, name + " ok");
            for (char digit : entry.substring(name.length()).trim().toCharArray()) {
                often(seen, name + " -100000" + digit);
            }
        }
    }

    private static void often(TreeMap<String, Integer> seen, String what) {
        int times = seen.getOrDefault(what, 0);
        Check.due("'" + what + "', seen " + times + " times, is enough", times >= 20 ? 1 : 0, 1);
    }

    private boolean run(long seed) {
        for (int i = 0; i < CALLS; i++) {
            if (!call(which())) {
                System.out.println("  seed " + seed + ":" + told);
                return false;
            }
        }
        return true;
    }

    private int which() {
        int sum = 0;
        for (int weight : WEIGHTS) {
            sum += weight;
        }
        int drawn = random.nextInt(sum);
        int which = 0;
        while (drawn >= WEIGHTS[which]) {
            drawn -= WEIGHTS[which];
            which++;
        }
        return which;
    }

    /** A number of a range, now and then beside it or far from it. */
    private int number(int from, int to) {
        int drawn = random.nextInt(150);
        int[] wrong = {from - 1, to + 1, Integer.MIN_VALUE, Integer.MAX_VALUE, -1, 1 << 16};
        return drawn < wrong.length ? wrong[drawn] : from + random.nextInt(to - from + 1);
    }

    private int cell() {
        if (random.nextInt(12) == 0) {
            return number(0, 63);
        }
        int column = (home[0] + random.nextInt(home[2])) % 8;
        int row = (home[1] + random.nextInt(home[2])) % 8;
        return 8 * row + column;
    }

    private int cartNumber() {
        int carts = model.count(0);
        return carts == 0 ? number(0, 3) : number(0, carts - 1);
    }

    private int kindNumber() {
        int drawn = random.nextInt(10);
        return drawn < 6 ? number(1, 4) : drawn == 6 ? 7 : number(0, 8);
    }

    private int register() {
        return random.nextInt(3) == 0 ? number(0, 4) : Math.min(4, model.count(1) + random.nextInt(2));
    }

    private int rank() {
        return random.nextInt(3) == 0 ? number(1, 999) : number(1, 4);
    }

    private boolean call(int which) {
        int[] a = arguments(which);
        int got = real(which, a);
        int due = modelled(which, a);
        told.append('\n').append(CALL_NAMES[which]).append(java.util.Arrays.toString(a)).append(' ').append(got);
        Check.due(CALL_NAMES[which] + java.util.Arrays.toString(a), got, due);
        seen.merge(CALL_NAMES[which] + " " + (due < 0 ? String.valueOf(due) : "ok"), 1, Integer::sum);
        return got == due;
    }

    private int[] arguments(int which) {
        switch (CALL_NAMES[which]) {
            case "kind":
                return new int[] {cell(), kindNumber()};
            case "wall":
            case "cart":
                return new int[] {cell(), number(0, 3)};
            case "flag":
                return new int[] {number(0, 3), cell()};
            case "card":
                return new int[] {cartNumber(), register(), number(0, 6), rank()};
            case "damage":
                return new int[] {cartNumber(), number(-9, 9)};
            case "cellOf":
                return new int[] {cell(), number(0, 3)};
            case "cartOf":
                return new int[] {cartNumber(), number(0, 8)};
            case "cardOf":
                return new int[] {cartNumber(), number(0, 4), number(0, 1)};
            case "turn":
                return new int[] {number(0, 3)};
            case "would":
                return new int[] {cartNumber(), random.nextBoolean() ? number(0, 6) : number(0, 20), number(0, 3)};
            case "best":
                return new int[] {cartNumber(), rank(), number(0, 1)};
            case "steps":
                return new int[] {cell(), cell()};
            case "count":
                return new int[] {number(0, 9)};
            case "type":
                return new int[] {sign()};
            case "fault":
                return new int[] {number(0, 2)};
            default:
                return new int[] {};
        }
    }

    /** The next sign of an order, or some other one now and then. */
    private int sign() {
        if (random.nextInt(60) == 0) {
            return number(32, 126);
        }
        if (pending.isEmpty()) {
            pending = order();
        }
        char sign = pending.charAt(0);
        pending = pending.substring(1);
        return sign;
    }

    private String order() {
        switch (random.nextInt(7)) {
            case 0:
                return "k" + cell() + "," + kindNumber() + ";";
            case 1:
                return "w0" + cell() + "," + number(0, 3) + ";";
            case 2:
                return "c" + cell() + ",0" + number(0, 3) + ";";
            case 3:
            case 4:
                return "p" + cartNumber() + "," + register() + "," + number(0, 6) + "," + rank() + ";";
            default:
                return "r;";
        }
    }

    private int real(int which, int[] a) {
        switch (CALL_NAMES[which]) {
            case "kind":
                return x.kind(a[0], a[1]);
            case "wall":
                return x.wall(a[0], a[1]);
            case "flag":
                return x.flag(a[0], a[1]);
            case "cart":
                return x.cart(a[0], a[1]);
            case "card":
                return x.card(a[0], a[1], a[2], a[3]);
            case "damage":
                return x.damage(a[0], a[1]);
            case "phase":
                return x.phase();
            case "round":
                return x.round();
            case "cellOf":
                return x.cellOf(a[0], a[1]);
            case "cartOf":
                return x.cartOf(a[0], a[1]);
            case "cardOf":
                return x.cardOf(a[0], a[1], a[2]);
            case "turn":
                return x.turn(a[0]);
            case "would":
                return x.would(a[0], a[1], a[2]);
            case "best":
                return x.best(a[0], a[1], a[2]);
            case "steps":
                return x.steps(a[0], a[1]);
            case "count":
                return x.count(a[0]);
            case "undo":
                return x.undo();
            case "type":
                return x.type(a[0]);
            case "clearText":
                return x.clearText();
            case "fault":
                return x.fault(a[0]);
            default:
                return x.play();
        }
    }

    private int modelled(int which, int[] a) {
        switch (CALL_NAMES[which]) {
            case "kind":
                return model.changed('k', a);
            case "wall":
                return model.changed('w', a);
            case "flag":
                return model.changed('f', a);
            case "cart":
                return model.changed('c', a);
            case "card":
                return model.changed('p', a);
            case "damage":
                return model.changed('d', a);
            case "phase":
                return model.changed('r');
            case "round":
                return model.changed('R');
            case "cellOf":
                return model.cellOf(a[0], a[1]);
            case "cartOf":
                return model.cartOf(a[0], a[1]);
            case "cardOf":
                return model.cardOf(a[0], a[1], a[2]);
            case "turn":
                return model.turn(a[0]);
            case "would":
                return model.would(a[0], a[1], a[2]);
            case "best":
                return model.best(a[0], a[1], a[2]);
            case "steps":
                return model.steps(a[0], a[1]);
            case "count":
                return model.count(a[0]);
            case "undo":
                return model.undo();
            case "type":
                return model.type(a[0]);
            case "clearText":
                return model.clearText();
            case "fault":
                return model.fault(a[0]);
            default:
                return model.changed('!');
        }
    }
}
