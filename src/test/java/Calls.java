import java.util.Arrays;
import java.util.List;
import java.util.Random;
import java.util.function.IntUnaryOperator;

/** Random calls with a fixed seed, such that carts meet and most of them are possible. */
final class Calls {
    static final String[] NAMES = {"kind", "wall", "flag", "cart", "card", "damage", "phase", "round",
        "cellOf", "cartOf", "cardOf", "turn", "would", "best", "steps", "count", "undo", "type", "clearText",
        "fault", "play"};
    /** How often each call comes, in the order of the names. */
    private static final int[] WEIGHTS = {5, 3, 3, 3, 16, 3, 12, 2, 5, 10, 4, 4, 6, 6, 5, 6, 3, 5, 2, 4, 4};

    private final Random random;
    /** What the race for which the calls are answers to count. */
    private final IntUnaryOperator count;
    private final int[] home;
    /** What is still to be typed. */
    private String pending = "";

    Calls(long seed, IntUnaryOperator count) {
        random = new Random(seed);
        this.count = count;
        // Carts near each other meet; some runs use the whole board.
        int corner = random.nextInt(64);
        int size = random.nextInt(4) == 0 ? 8 : 2 + random.nextInt(3);
        home = new int[] {corner % 8, corner / 8, size};
    }

    static String told(int which, int[] arguments) {
        return NAMES[which] + Arrays.toString(arguments);
    }

    int which() {
        if (!pending.isEmpty() && random.nextInt(3) > 0) {
            return List.of(NAMES).indexOf("type");
        }
        int sum = 0;
        for (int weight : WEIGHTS) {
            sum += weight;
        }
        int drawn = random.nextInt(sum);
        int which = 0;
        while (drawn >= WEIGHTS[which]) {
            drawn -= WEIGHTS[which];
            which++;
        }
        return which;
    }

    /** A number of a range, now and then beside it or far from it. */
    private int number(int from, int to) {
        int drawn = random.nextInt(150);
        int[] wrong = {from - 1, to + 1, Integer.MIN_VALUE, Integer.MAX_VALUE, -1, 1 << 16};
        return drawn < wrong.length ? wrong[drawn] : from + random.nextInt(to - from + 1);
    }

    private int cell() {
        if (random.nextInt(12) == 0) {
            return number(0, 63);
        }
        int column = (home[0] + random.nextInt(home[2])) % 8;
        int row = (home[1] + random.nextInt(home[2])) % 8;
        return 8 * row + column;
    }

    private int cartNumber() {
        int carts = count.applyAsInt(0);
        return carts == 0 ? number(0, 3) : number(0, carts - 1);
    }

    private int kindNumber() {
        int drawn = random.nextInt(10);
        return drawn < 6 ? number(1, 4) : drawn == 6 ? 7 : number(0, 8);
    }

    private int register() {
        return random.nextInt(3) == 0 ? number(0, 4) : Math.min(4, count.applyAsInt(1) + random.nextInt(2));
    }

    private int rank() {
        return random.nextInt(3) == 0 ? number(1, 999) : number(1, 4);
    }

    int[] arguments(int which) {
        switch (NAMES[which]) {
            case "kind":
                return new int[] {cell(), kindNumber()};
            case "wall":
            case "cart":
                return new int[] {cell(), number(0, 3)};
            case "flag":
                return new int[] {number(0, 3), cell()};
            case "card":
                return new int[] {cartNumber(), register(), number(0, 6), rank()};
            case "damage":
                return new int[] {cartNumber(), number(-9, 9)};
            case "cellOf":
                return new int[] {cell(), number(0, 3)};
            case "cartOf":
                return new int[] {cartNumber(), number(0, 8)};
            case "cardOf":
                return new int[] {cartNumber(), number(0, 4), number(0, 1)};
            case "turn":
                return new int[] {number(0, 3)};
            case "would":
                return new int[] {cartNumber(), random.nextBoolean() ? number(0, 6) : number(0, 20), number(0, 3)};
            case "best":
                return new int[] {cartNumber(), rank(), number(0, 1)};
            case "steps":
                return new int[] {cell(), cell()};
            case "count":
                return new int[] {number(0, 9)};
            case "type":
                return new int[] {sign()};
            case "fault":
                return new int[] {number(0, 2)};
            default:
                return new int[] {};
        }
    }

    /** The next sign of an order, or some other one now and then. */
    private int sign() {
        if (random.nextInt(60) == 0) {
            return number(32, 126);
        }
        if (pending.isEmpty()) {
            pending = order();
        }
        char sign = pending.charAt(0);
        pending = pending.substring(1);
        return sign;
    }

    private String order() {
        switch (random.nextInt(7)) {
            case 0:
                return "k" + cell() + "," + kindNumber() + ";";
            case 1:
                return "w0" + cell() + "," + number(0, 3) + ";";
            case 2:
                return "c" + cell() + ",0" + number(0, 3) + ";";
            case 3:
            case 4:
                return "p" + cartNumber() + "," + register() + "," + number(0, 6) + "," + rank() + ";";
            default:
                return "r;";
        }
    }

    static int onRace(LockedCarts x, int which, int[] a) {
        switch (NAMES[which]) {
            case "kind":
                return x.kind(a[0], a[1]);
            case "wall":
                return x.wall(a[0], a[1]);
            case "flag":
                return x.flag(a[0], a[1]);
            case "cart":
                return x.cart(a[0], a[1]);
            case "card":
                return x.card(a[0], a[1], a[2], a[3]);
            case "damage":
                return x.damage(a[0], a[1]);
            case "phase":
                return x.phase();
            case "round":
                return x.round();
            case "cellOf":
                return x.cellOf(a[0], a[1]);
            case "cartOf":
                return x.cartOf(a[0], a[1]);
            case "cardOf":
                return x.cardOf(a[0], a[1], a[2]);
            case "turn":
                return x.turn(a[0]);
            case "would":
                return x.would(a[0], a[1], a[2]);
            case "best":
                return x.best(a[0], a[1], a[2]);
            case "steps":
                return x.steps(a[0], a[1]);
            case "count":
                return x.count(a[0]);
            case "undo":
                return x.undo();
            case "type":
                return x.type(a[0]);
            case "clearText":
                return x.clearText();
            case "fault":
                return x.fault(a[0]);
            default:
                return x.play();
        }
    }
}
