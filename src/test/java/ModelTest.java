import java.util.TreeMap;

/** All promises: long random runs, each answer compared with the model's. */
public final class ModelTest {
    private static final int RUNS = Integer.getInteger("runs", 1500);
    private static final int CALLS = 512;

    private final LockedCarts x = new LockedCarts();
    private final Model model = new Model();
    private final Calls calls;
    private final StringBuilder told = new StringBuilder();
    private final TreeMap<String, Integer> seen;

    private ModelTest(long seed, TreeMap<String, Integer> seen) {
        calls = new Calls(seed, model::count);
        this.seen = seen;
    }

    public static void main(String[] args) {
        TreeMap<String, Integer> seen = new TreeMap<>();
        for (int seed = 1; seed <= RUNS; seed++) {
            if (!new ModelTest(seed, seen).run(seed)) {
                break;
            }
        }
        coverage(seen);
        Check.finish();
    }

    /** Each call must have come often, and answered each error that it can give (the digits behind its name). */
    private static void coverage(TreeMap<String, Integer> seen) {
        String[] errors = {"kind 12", "wall 1", "flag 12", "cart 123", "card 12", "damage 12", "phase 2", "round 2",
            "cellOf 14", "cartOf 14", "cardOf 14", "turn 14", "would 14", "best 124", "steps 14", "count 14",
            "undo 2", "type 13", "clearText", "fault 14", "play 2"};
        for (String entry : errors) {
            String name = entry.split(" ")[0];
            often(seen, name + " ok");
            for (char digit : entry.substring(name.length()).trim().toCharArray()) {
                often(seen, name + " -100000" + digit);
            }
        }
    }

    private static void often(TreeMap<String, Integer> seen, String what) {
        int times = seen.getOrDefault(what, 0);
        Check.due("'" + what + "', seen " + times + " times, is enough", times >= 20 ? 1 : 0, 1);
    }

    private boolean run(long seed) {
        for (int i = 0; i < CALLS; i++) {
            if (!call(calls.which())) {
                System.out.println("  seed " + seed + ":" + told);
                return false;
            }
        }
        return true;
    }

    private boolean call(int which) {
        int[] a = calls.arguments(which);
        int got = Calls.onRace(x, which, a);
        int due = modelled(model, which, a);
        told.append('\n').append(Calls.told(which, a)).append(' ').append(got);
        Check.due(Calls.told(which, a), got, due);
        seen.merge(Calls.NAMES[which] + " " + (due < 0 ? String.valueOf(due) : "ok"), 1, Integer::sum);
        return got == due;
    }

    static int modelled(Model model, int which, int[] a) {
        switch (Calls.NAMES[which]) {
            case "kind":
                return model.changed('k', a);
            case "wall":
                return model.changed('w', a);
            case "flag":
                return model.changed('f', a);
            case "cart":
                return model.changed('c', a);
            case "card":
                return model.changed('p', a);
            case "damage":
                return model.changed('d', a);
            case "phase":
                return model.changed('r');
            case "round":
                return model.changed('R');
            case "cellOf":
                return model.cellOf(a[0], a[1]);
            case "cartOf":
                return model.cartOf(a[0], a[1]);
            case "cardOf":
                return model.cardOf(a[0], a[1], a[2]);
            case "turn":
                return model.turn(a[0]);
            case "would":
                return model.would(a[0], a[1], a[2]);
            case "best":
                return model.best(a[0], a[1], a[2]);
            case "steps":
                return model.steps(a[0], a[1]);
            case "count":
                return model.count(a[0]);
            case "undo":
                return model.undo();
            case "type":
                return model.type(a[0]);
            case "clearText":
                return model.clearText();
            case "fault":
                return model.fault(a[0]);
            default:
                return model.changed('!');
        }
    }
}
