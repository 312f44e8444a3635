/** Edges of the belts in the section 'A phase', on which the promise 8 rests. */
final class BeltEdges {
    private static final int NOT_FOUND = LockedCarts.NOT_FOUND;
    private static final int UP = 1;
    private static final int RIGHT = 2;
    private static final int DOWN = 3;
    private static final int LEFT = 4;
    private static final int PIT = 7;

    private BeltEdges() {
    }

    static void all() {
        wants();
        walls();
        notCarriedAhead();
        wantsToItsCell();
        sameCell();
        sameCellAtAWall();
        rings();
        offTheBoard();
        intoPits();
    }

    /** Belts, each told by a cell and a kind. */
    private static LockedCarts belts(int... cellsAndKinds) {
        LockedCarts x = new LockedCarts();
        for (int i = 0; i + 1 < cellsAndKinds.length; i += 2) {
            x.kind(cellsAndKinds[i], cellsAndKinds[i + 1]);
        }
        return x;
    }

    private static LockedCarts with(LockedCarts x, int... carts) {
        for (int cell : carts) {
            x.cart(cell, 0);
        }
        return x;
    }

    private static void carried(String what, LockedCarts x, int out, int... cells) {
        Edge.due("phase() of " + what, x.phase(), out);
        for (int n = 0; n < cells.length; n++) {
            Edge.due("cell of " + n + ", " + what, x.cartOf(n, 0), cells[n]);
        }
    }

    private static void wants() {
        Edge.of(8, "A phase", "Then belts carry: each cart that is on a belt (and not out) "
            + "wants to the next cell in its direction.");
        carried("four belts", with(belts(12, UP, 38, RIGHT, 51, DOWN, 33, LEFT), 12, 38, 51, 33), 0, 4, 39, 59, 32);
        carried("cells beside belts", with(belts(26, UP, 28, UP), 27), 0, 27);
        LockedCarts x = with(belts(27, RIGHT, 28, RIGHT, 29, DOWN), 27);
        carried("one cell in a phase", x, 0, 28);
        carried("the next cell in the next one", x, 0, 29);
        carried("another direction", x, 0, 37);
        LockedCarts out = with(belts(0, RIGHT), 0, 27);
        out.card(0, 0, 0, 1);
        carried("one that went out ahead of the belts", out, 1, NOT_FOUND, 27);
        carried("one that is out", out, 0, NOT_FOUND, 27);
        Edge.due("how often it was out", out.cartOf(0, 7), 1);
    }

    private static void walls() {
        Edge.of(8, "A phase", "It is not carried if there is a wall on that side; ");
        int[] ahead = {19, 28, 35, 26};
        for (int direction = 0; direction < 4; direction++) {
            for (int side = 0; side < 4; side++) {
                LockedCarts x = with(belts(27, 1 + direction), 27);
                x.wall(27, side);
                carried("the direction " + direction + " with a wall at " + side, x, 0,
                    side == direction ? 27 : ahead[direction]);
                Edge.due("damage by a belt", x.cartOf(0, 2), 0);
            }
        }
        LockedCarts x = with(belts(26, RIGHT), 26);
        x.wall(27, 1);
        carried("a wall behind the next cell", x, 0, 27);
        LockedCarts y = with(belts(31, RIGHT, 39, RIGHT), 31, 39);
        y.wall(31, 1);
        carried("a wall at the border", y, 1, 31, NOT_FOUND);
    }

    private static void notCarriedAhead() {
        Edge.of(8, "A phase", "or if another cart is on that cell that is not carried, ");
        carried("one ahead that is on floor", with(belts(25, RIGHT), 25, 26), 0, 25, 26);
        carried("one ahead that is carried", with(belts(25, RIGHT, 26, RIGHT), 25, 26), 0, 26, 27);
        carried("one ahead of the next cell", with(belts(24, RIGHT), 24, 26), 0, 25, 26);
        // A row of four ahead of floor, of a wall, of free floor; in each order of numbers.
        int[][] rows = {{24, 25, 26, 27}, {27, 26, 25, 24}, {25, 27, 24, 26}};
        for (int[] row : rows) {
            int[] moved = {row[0] + 1, row[1] + 1, row[2] + 1, row[3] + 1};
            carried("a row ahead of floor", with(belts(24, RIGHT, 25, RIGHT, 26, RIGHT), row), 0, row);
            carried("a row of belts", with(belts(24, RIGHT, 25, RIGHT, 26, RIGHT, 27, RIGHT), row), 0, moved);
            LockedCarts x = with(belts(24, RIGHT, 25, RIGHT, 26, RIGHT, 27, RIGHT), row);
            x.wall(28, 3);
            carried("a row ahead of a wall", x, 0, row);
        }
    }

    private static void wantsToItsCell() {
        Edge.of(8, "A phase", "or wants to its cell; ");
        carried("two that want to each other's cells", with(belts(26, RIGHT, 27, LEFT), 26, 27), 0, 26, 27);
        carried("two one above the other", with(belts(19, DOWN, 27, UP), 27, 19), 0, 27, 19);
        carried("one that wants elsewhere", with(belts(26, RIGHT, 27, DOWN), 26, 27), 0, 27, 35);
        carried("a belt towards it without a cart", with(belts(26, RIGHT, 27, LEFT), 26), 0, 27);
        carried("one behind such two", with(belts(25, RIGHT, 26, RIGHT, 27, LEFT), 25, 26, 27), 0, 25, 26, 27);
    }

    private static void sameCell() {
        Edge.of(8, "A phase", "or if another one that is on a belt wants to the same cell, "
            + "whether it is stopped by a wall or not (then neither is).");
        carried("two that want to a cell", with(belts(26, RIGHT, 28, LEFT), 26, 28), 0, 26, 28);
        carried("two that want to cells side by side", with(belts(26, RIGHT, 29, LEFT), 26, 29), 0, 27, 28);
        carried("three", with(belts(26, RIGHT, 28, LEFT, 19, DOWN), 26, 28, 19), 0, 26, 28, 19);
        carried("four", with(belts(26, RIGHT, 28, LEFT, 19, DOWN, 35, UP), 26, 28, 19, 35), 0, 26, 28, 19, 35);
        carried("an empty belt to that cell", with(belts(26, RIGHT, 28, LEFT), 26), 0, 27);
        carried("two to a cell that another one leaves",
            with(belts(26, RIGHT, 28, LEFT, 27, DOWN), 26, 28, 27), 0, 26, 28, 35);
        carried("one to a cell that another one leaves",
            with(belts(26, RIGHT, 28, LEFT, 27, DOWN), 26, 27), 0, 27, 35);
        carried("one behind such two", with(belts(25, RIGHT, 26, RIGHT, 28, LEFT), 25, 26, 28), 0, 25, 26, 28);
        carried("two to a pit", with(belts(26, RIGHT, 28, LEFT, 27, PIT), 26, 28), 0, 26, 28);
    }

    private static void sameCellAtAWall() {
        Edge.of(8, "A phase", "whether it is stopped by a wall or not (then neither is).");
        for (int walled = 0; walled < 2; walled++) {
            LockedCarts x = with(belts(26, RIGHT, 28, LEFT), 26, 28);
            x.wall(27, walled == 0 ? 3 : 1);
            carried("a wall ahead of " + walled, x, 0, 26, 28);
        }
        LockedCarts x = with(belts(26, RIGHT, 28, UP), 26, 28);
        x.wall(28, 0);
        carried("a wall ahead of one that wants elsewhere", x, 0, 27, 28);
    }

    private static void rings() {
        Edge.of(8, "A phase", "All others are carried at once (all carts in a ring of belts, too); ");
        int[] ring = {0, RIGHT, 1, DOWN, 9, LEFT, 8, UP};
        carried("a full ring", with(belts(ring), 0, 1, 9, 8), 0, 1, 9, 8, 0);
        carried("a full ring the other way",
            with(belts(0, DOWN, 8, RIGHT, 9, UP, 1, LEFT), 0, 1, 9, 8), 0, 8, 0, 1, 9);
        carried("a ring with a gap", with(belts(ring), 0, 1, 9), 0, 1, 9, 8);
        LockedCarts broken = with(belts(ring), 0, 1, 9, 8);
        broken.wall(8, 0);
        carried("a ring with a wall", broken, 0, 0, 1, 9, 8);
        LockedCarts open = with(belts(0, RIGHT, 1, DOWN, 9, LEFT, 8, 0), 0, 1, 9, 8);
        carried("a ring with floor in it", open, 0, 0, 1, 9, 8);
    }

    private static void offTheBoard() {
        Edge.of(8, "A phase", "who leaves the board, or comes upon a pit, is out.");
        LockedCarts x = with(belts(7, UP, 39, RIGHT, 63, DOWN, 56, LEFT), 7, 39, 63, 56);
        carried("four borders", x, 4, NOT_FOUND, NOT_FOUND, NOT_FOUND, NOT_FOUND);
        LockedCarts y = with(belts(15, UP, 38, RIGHT, 55, DOWN, 57, LEFT), 15, 38, 55, 57);
        carried("cells beside the borders", y, 0, 7, 39, 63, 56);
        carried("a row over the border", with(belts(30, RIGHT, 31, RIGHT), 30, 31), 1, 31, NOT_FOUND);
        carried("two from one corner's cells", with(belts(0, UP, 1, UP), 0, 1), 2, NOT_FOUND, NOT_FOUND);
    }

    private static void intoPits() {
        Edge.of(8, "A phase", "or comes upon a pit, is out.");
        for (int kind = 6; kind <= 8; kind++) {
            int out = kind == PIT ? 1 : 0;
            LockedCarts x = with(belts(26, RIGHT, 27, kind), 26);
            carried("the kind " + kind, x, out, kind == PIT ? NOT_FOUND : 27);
            Edge.due("how often it was out", x.cartOf(0, 7), out);
        }
        LockedCarts x = with(belts(26, RIGHT, 28, PIT), 26);
        carried("a pit behind the next cell", x, 0, 27);
        carried("a row ahead of a pit", with(belts(25, RIGHT, 26, RIGHT, 27, PIT), 25, 26), 1, 26, NOT_FOUND);
        LockedCarts y = with(belts(26, RIGHT, 27, PIT), 26);
        y.wall(26, 1);
        carried("a wall ahead of a pit", y, 0, 26);
    }
}
