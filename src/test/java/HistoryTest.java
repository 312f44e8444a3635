/** Promises 17 and 18: count, undo, and which calls are changes. */
public final class HistoryTest {
    private static final int INVALID = LockedCarts.INVALID_ARGUMENT;
    private static final int NOT_POSSIBLE = LockedCarts.NOT_POSSIBLE;

    public static void main(String[] args) {
        counts();
        countRefused();
        eachChange();
        fourStates();
        everythingButTheText();
        cartsAreGone();
        errorsAreNoChanges();
        Check.finish();
    }

    private static void counts() {
        LockedCarts x = new LockedCarts();
        x.cart(1, 0);
        x.cart(27, 1);
        x.cart(28, 1);
        x.flag(0, 50);
        x.flag(1, 28);
        x.flag(0, 28);
        x.card(0, 0, 0, 1);
        x.card(1, 0, 0, 1);
        x.card(2, 1, 3, 1);
        x.type('r');
        for (int i = 0; i < 7; i++) {
            x.phase();
        }
        x.card(0, 2, 0, 1);
        x.phase();
        int[] due = {3, 3, 1, 2, 1, 2, 8, 4, 1, 2};
        for (int what = 0; what < due.length; what++) {
            Check.due("count(" + what + ")", x.count(what), due[what]);
        }
    }

    private static void countRefused() {
        LockedCarts x = new LockedCarts();
        Check.due("count(-1)", x.count(-1), INVALID);
        Check.due("count(10)", x.count(10), INVALID);
    }

    private static LockedCarts some() {
        LockedCarts x = new LockedCarts();
        x.cart(27, 1);
        x.cart(1, 0);
        x.flag(0, 28);
        x.card(0, 0, 0, 3);
        x.card(1, 0, 0, 4);
        for (char c : "k1,1;w9,3;c11,2;r;".toCharArray()) {
            x.type(c);
        }
        x.undo();
        x.undo();
        x.undo();
        x.undo();
        x.cart(1, 0);
        x.flag(0, 28);
        x.card(0, 0, 0, 3);
        x.undo();
        return x;
    }

    private static void eachChange() {
        for (int which = 0; which < ChangeEdges.CHANGES; which++) {
            LockedCarts x = some();
            Check.due("states ahead of " + which, x.count(7), 2);
            int got = ChangeEdges.change(x, which);
            Check.due("change " + which + " is no error", got < 0 ? got : 0, 0);
            Check.due("states behind change " + which, x.count(7), 3);
            Check.due("undo() of change " + which, x.undo(), 2);
            Check.same("what there is behind undo of " + which, Snapshot.whole(x), Snapshot.whole(some()));
        }
        LockedCarts x = some();
        for (int i = 0; i < 3; i++) {
            x.cellOf(0, 0);
            x.cartOf(0, 0);
            x.cardOf(0, 0, 0);
            x.turn(0);
            x.would(0, 5, 0);
            x.best(0, 5, 0);
            x.steps(0, 1);
            x.type('r');
            x.clearText();
            x.fault(0);
        }
        Check.due("states behind calls that are no changes", x.count(7), 2);
    }

    private static void fourStates() {
        LockedCarts x = new LockedCarts();
        Check.due("undo() of nothing", x.undo(), NOT_POSSIBLE);
        for (int kind = 1; kind <= 8; kind++) {
            x.kind(0, kind);
            Check.due("states behind " + kind, x.count(7), Math.min(kind, 4));
        }
        for (int left = 3; left >= 0; left--) {
            Check.due("undo()", x.undo(), left);
            Check.due("its kind", x.cellOf(0, 0), 4 + left);
        }
        Check.due("undo() of a dropped state", x.undo(), NOT_POSSIBLE);
        Check.due("its kind then", x.cellOf(0, 0), 4);
        x.kind(0, 1);
        x.kind(0, 2);
        Check.due("undo() of new states", x.undo(), 1);
        Check.due("its kind at last", x.cellOf(0, 0), 1);
        Check.due("undo() of the last one", x.undo(), 0);
        Check.due("its kind at the very last", x.cellOf(0, 0), 4);
    }

    private static LockedCarts raced(int phases) {
        LockedCarts x = new LockedCarts();
        x.cart(0, 0);
        x.cart(9, 0);
        x.flag(0, 1);
        x.card(0, 1, 0, 5);
        x.card(1, 0, 0, 5);
        x.wall(8, 0);
        for (int i = 0; i < phases; i++) {
            x.phase();
        }
        return x;
    }

    private static void everythingButTheText() {
        for (int phases = 3; phases >= 0; phases--) {
            LockedCarts x = raced(4);
            x.type('r');
            x.type(';');
            for (int i = 3; i >= phases; i--) {
                Check.due("undo() of phase " + i, x.undo(), i);
            }
            Check.same("the race ahead of phase " + phases, Snapshot.race(x), Snapshot.race(raced(phases)));
            Check.due("the text stays", x.count(8), 2);
        }
        LockedCarts x = raced(1);
        x.type('r');
        x.phase();
        x.clearText();
        x.undo();
        Check.due("the text stays empty", x.count(8), 0);
    }

    private static void cartsAreGone() {
        LockedCarts x = new LockedCarts();
        x.cart(0, 3);
        x.damage(0, 7);
        x.card(0, 0, 6, 9);
        x.undo();
        x.undo();
        x.undo();
        Check.due("no cart any more", x.count(0), 0);
        Check.due("cartOf(0, 0)", x.cartOf(0, 0), INVALID);
        Check.due("cellOf(0, 2)", x.cellOf(0, 2), LockedCarts.NOT_FOUND);
        Check.due("another one", x.cart(9, 1), 0);
        Check.due("its damage", x.cartOf(0, 2), 0);
        Check.due("its cards", x.cartOf(0, 6), 0);
        Check.due("its start", x.cartOf(0, 4), 9);
    }

    private static void errorsAreNoChanges() {
        LockedCarts x = new LockedCarts();
        x.phase();
        x.round();
        x.kind(64, 0);
        x.wall(0, 4);
        x.flag(1, 0);
        x.cart(0, 4);
        x.card(0, 0, 0, 1);
        x.damage(0, 0);
        x.type('x');
        x.play();
        Check.due("states behind errors", x.count(7), 0);
    }
}
