import java.util.ArrayDeque;
import java.util.ArrayList;
import java.util.List;
import java.util.Set;

/**
 * Promise 18, and 'a call that returns an error changes nothing', in long runs: behind calls of all kinds a race is
 * as one that got only the changes that stand, and the text's signs.
 */
public final class TwinTest {
    private static final int RUNS = Integer.getInteger("runs", 400);
    /** With all that is read behind them the calls of an object stay below 512. */
    private static final int CALLS = 140;
    private static final int MAX_STATES = 4;
    private static final int TEXT = 8;
    private static final Set<String> CHANGES =
        Set.of("kind", "wall", "flag", "cart", "card", "damage", "phase", "round", "play");
    private static final Set<String> TYPING = Set.of("type", "clearText");

    private static int undone = 0;
    private static int refused = 0;
    private static int played = 0;

    private final LockedCarts x = new LockedCarts();
    private final LockedCarts twin = new LockedCarts();
    /** It only leads the random calls to ones that are possible. */
    private final Model guide = new Model();
    private final Calls calls;
    /** The calls that the twin gets, and those of them that undo can still take back. */
    private final List<int[]> standing = new ArrayList<>();
    private final ArrayDeque<int[]> undoable = new ArrayDeque<>();

    private TwinTest(long seed) {
        calls = new Calls(seed, guide::count);
    }

    public static void main(String[] args) {
        for (int seed = 1; seed <= RUNS && Check.wrongOnes() == 0; seed++) {
            new TwinTest(seed).run("seed " + seed);
        }
        Check.due(undone + " changes undone are enough", undone >= 500 ? 1 : 0, 1);
        Check.due(refused + " errors are enough", refused >= 5000 ? 1 : 0, 1);
        Check.due(played + " texts played are enough", played >= 50 ? 1 : 0, 1);
        Check.finish();
    }

    private void run(String seed) {
        for (int i = 0; i < CALLS; i++) {
            int which = calls.which();
            int[] arguments = calls.arguments(which);
            ModelTest.modelled(guide, which, arguments);
            note(which, arguments, Calls.onRace(x, which, arguments));
        }
        for (int[] call : standing) {
            int[] arguments = java.util.Arrays.copyOfRange(call, 1, call.length);
            int answer = Calls.onRace(twin, call[0], arguments);
            Check.due(seed + ", for its twin " + Calls.told(call[0], arguments), Math.min(answer, 0), 0);
        }
        Check.same(seed, seen(x), seen(twin));
        Check.due(seed + ", states", x.count(7), undoable.size());
    }

    private void note(int which, int[] arguments, int answer) {
        String name = Calls.NAMES[which];
        if (answer < 0) {
            refused++;
        } else if (name.equals("undo")) {
            int[] call = undoable.removeLast();
            standing.removeIf(other -> other == call);
            undone++;
        } else if (CHANGES.contains(name) || TYPING.contains(name)) {
            int[] call = new int[arguments.length + 1];
            call[0] = which;
            System.arraycopy(arguments, 0, call, 1, arguments.length);
            standing.add(call);
            if (CHANGES.contains(name)) {
                remember(call);
            }
            if (name.equals("play") && answer > 0) {
                played++;
            }
        }
    }

    private void remember(int[] call) {
        undoable.addLast(call);
        if (undoable.size() > MAX_STATES) {
            undoable.removeFirst();
        }
    }

    /** All but the history, which the twin's fewer changes fill otherwise. */
    private static String seen(LockedCarts race) {
        StringBuilder all = new StringBuilder(Snapshot.race(race));
        all.append("text ").append(race.count(TEXT));
        for (int what = 0; what <= 2; what++) {
            all.append(' ').append(race.fault(what));
        }
        for (int cart = 0; cart < race.count(0); cart++) {
            for (int what = 0; what <= 3; what++) {
                all.append(' ').append(race.would(cart, 20, what));
            }
        }
        return all.append('\n').toString();
    }
}
