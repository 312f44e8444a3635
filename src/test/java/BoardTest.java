/** Promises 1 to 4 and 10: a new object, kind, wall, flag, cellOf. */
public final class BoardTest {
    private static final int INVALID = LockedCarts.INVALID_ARGUMENT;
    private static final int NOT_POSSIBLE = LockedCarts.NOT_POSSIBLE;
    private static final int NOT_FOUND = LockedCarts.NOT_FOUND;

    public static void main(String[] args) {
        newObject();
        kinds();
        kindsRefused();
        walls();
        wallsRefused();
        flags();
        flagsRefused();
        cells();
        Check.finish();
    }

    private static void newObject() {
        LockedCarts x = new LockedCarts();
        for (int cell = 0; cell < 64; cell++) {
            Check.due("new: kind of " + cell, x.cellOf(cell, 0), 0);
            Check.due("new: walls of " + cell, x.cellOf(cell, 1), 0);
            Check.due("new: cart on " + cell, x.cellOf(cell, 2), NOT_FOUND);
            Check.due("new: flag on " + cell, x.cellOf(cell, 3), NOT_FOUND);
        }
        int[] counts = {0, 0, 0, 0, 0, NOT_FOUND, 0, 0, 0, 0};
        for (int what = 0; what < counts.length; what++) {
            Check.due("new: count(" + what + ")", x.count(what), counts[what]);
        }
        Check.due("new: fault(0)", x.fault(0), NOT_FOUND);
        Check.due("new: undo()", x.undo(), NOT_POSSIBLE);
        Check.due("new: cartOf(0, 2)", x.cartOf(0, 2), INVALID);
        LockedCarts other = new LockedCarts();
        other.kind(5, 5);
        Check.due("another object's kind", x.cellOf(5, 0), 0);
    }

    private static void kinds() {
        LockedCarts x = new LockedCarts();
        int before = 0;
        for (int kind = 8; kind >= 0; kind--) {
            Check.due("kind(63, " + kind + ")", x.kind(63, kind), before);
            Check.due("its kind", x.cellOf(63, 0), kind);
            before = kind;
        }
        Check.due("kind(0, 7)", x.kind(0, 7), 0);
        Check.due("kind(0, 7) again", x.kind(0, 7), 7);
        Check.due("a kind beside it", x.cellOf(1, 0), 0);
    }

    private static void kindsRefused() {
        LockedCarts x = new LockedCarts();
        x.cart(9, 0);
        x.kind(9, 3);
        Check.due("kind(9, 7) below a cart", x.kind(9, 7), NOT_POSSIBLE);
        Check.due("kind(-1, 0)", x.kind(-1, 0), INVALID);
        Check.due("kind(64, 0)", x.kind(64, 0), INVALID);
        Check.due("kind(0, -1)", x.kind(0, -1), INVALID);
        Check.due("kind(9, 9)", x.kind(9, 9), INVALID);
        Check.due("kind(64, 7)", x.kind(64, 7), INVALID);
        Check.due("another kind below a cart", x.kind(9, 8), 3);
        // A cart that is out is on no cell.
        x.cart(0, 0);
        x.card(1, 0, 0, 1);
        x.phase();
        Check.due("kind(0, 7) where the cart went out", x.kind(0, 7), 0);
    }

    private static void walls() {
        LockedCarts x = new LockedCarts();
        int[] beyond = {19, 28, 35, 26};
        int[] opposite = {4, 8, 1, 2};
        for (int side = 0; side < 4; side++) {
            Check.due("wall(27, " + side + ")", x.wall(27, side), 1);
            Check.due("walls of 27", x.cellOf(27, 1), (2 << side) - 1);
            Check.due("walls beyond " + side, x.cellOf(beyond[side], 1), opposite[side]);
        }
        Check.due("wall(28, 3) from the other cell", x.wall(28, 3), 0);
        Check.due("walls of 27 then", x.cellOf(27, 1), 1 | 4 | 8);
        Check.due("walls of 28 then", x.cellOf(28, 1), 0);
        int[] edges = {3, 39, 59, 24};
        for (int side = 0; side < 4; side++) {
            Check.due("wall at the edge " + side, x.wall(edges[side], side), 1);
            Check.due("walls at the edge " + side, x.cellOf(edges[side], 1), 1 << side);
        }
        Check.due("wall(0, 3)", x.wall(0, 3), 1);
        Check.due("walls of 0", x.cellOf(0, 1), 8);
        Check.due("wall(63, 2)", x.wall(63, 2), 1);
        Check.due("walls of 63", x.cellOf(63, 1), 4);
        Check.due("no wall around a row's end", x.cellOf(40, 1), 0);
        Check.due("no wall ahead of a row's begin", x.cellOf(23, 1), 0);
        Check.due("wall(24, 3) taken away", x.wall(24, 3), 0);
        Check.due("walls of 24 then", x.cellOf(24, 1), 0);
    }

    private static void wallsRefused() {
        LockedCarts x = new LockedCarts();
        x.wall(0, 0);
        Check.due("wall(-1, 0)", x.wall(-1, 0), INVALID);
        Check.due("wall(64, 0)", x.wall(64, 0), INVALID);
        Check.due("wall(0, -1)", x.wall(0, -1), INVALID);
        Check.due("wall(0, 4)", x.wall(0, 4), INVALID);
    }

    private static void flags() {
        LockedCarts x = new LockedCarts();
        Check.due("flag(0, 0)", x.flag(0, 0), 1);
        Check.due("flag(1, 63)", x.flag(1, 63), 2);
        Check.due("flag(2, 63)", x.flag(2, 63), 3);
        Check.due("the lowest flag on 63", x.cellOf(63, 3), 1);
        Check.due("flag(3, 7)", x.flag(3, 7), 4);
        Check.due("flag(1, 9) in place of where it was", x.flag(1, 9), 4);
        Check.due("the flag on 9", x.cellOf(9, 3), 1);
        Check.due("the lowest flag on 63 then", x.cellOf(63, 3), 2);
        Check.due("flag(0, 1)", x.flag(0, 1), 4);
        Check.due("no flag on 0", x.cellOf(0, 3), NOT_FOUND);
        Check.due("count(3)", x.count(3), 4);
        x.kind(5, 7);
        Check.due("a flag on a pit", x.flag(3, 5), 4);
    }

    private static void flagsRefused() {
        LockedCarts x = new LockedCarts();
        x.flag(0, 5);
        Check.due("flag(2, 0)", x.flag(2, 0), NOT_POSSIBLE);
        Check.due("flag(3, 0)", x.flag(3, 0), NOT_POSSIBLE);
        Check.due("flag(3, 64)", x.flag(3, 64), INVALID);
        Check.due("flag(-1, 0)", x.flag(-1, 0), INVALID);
        Check.due("flag(4, 0)", x.flag(4, 0), INVALID);
        Check.due("flag(0, -1)", x.flag(0, -1), INVALID);
        Check.due("flag(0, 64)", x.flag(0, 64), INVALID);
    }

    private static void cells() {
        LockedCarts x = new LockedCarts();
        x.kind(10, 6);
        x.cart(11, 0);
        x.cart(10, 0);
        x.flag(0, 10);
        x.wall(10, 2);
        Check.due("cellOf(10, 0)", x.cellOf(10, 0), 6);
        Check.due("cellOf(10, 1)", x.cellOf(10, 1), 4);
        Check.due("cellOf(10, 2)", x.cellOf(10, 2), 1);
        Check.due("cellOf(11, 2)", x.cellOf(11, 2), 0);
        Check.due("cellOf(10, 3)", x.cellOf(10, 3), 0);
        Check.due("cellOf(12, 2)", x.cellOf(12, 2), NOT_FOUND);
        Check.due("cellOf(12, 3)", x.cellOf(12, 3), NOT_FOUND);
        Check.due("cellOf(-1, 0)", x.cellOf(-1, 0), INVALID);
        Check.due("cellOf(64, 2)", x.cellOf(64, 2), INVALID);
        Check.due("cellOf(0, -1)", x.cellOf(0, -1), INVALID);
        Check.due("cellOf(0, 4)", x.cellOf(0, 4), INVALID);
        Check.due("no state by reading", x.count(7), 4);
    }
}
