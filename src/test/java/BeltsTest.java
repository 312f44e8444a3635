/** Promise 8: belts carry all carts at once. */
public final class BeltsTest {
    private static final int NOT_FOUND = LockedCarts.NOT_FOUND;
    private static final int UP = 1;
    private static final int RIGHT = 2;
    private static final int DOWN = 3;
    private static final int LEFT = 4;
    private static final int PIT = 7;

    public static void main(String[] args) {
        directions();
        offTheBoard();
        walls();
        intoPits();
        rows();
        blocked();
        rings();
        faceToFace();
        sameCell();
        sameCellAtAWall();
        behindCards();
        Check.finish();
    }

    /** A board with belts, each a cell and its kind. */
    private static LockedCarts board(int... belts) {
        LockedCarts x = new LockedCarts();
        for (int i = 0; i < belts.length; i += 2) {
            x.kind(belts[i], belts[i + 1]);
        }
        return x;
    }

    private static void carts(LockedCarts x, int... cells) {
        for (int cell : cells) {
            x.cart(cell, 1);
        }
    }

    private static void carried(LockedCarts x, String what, int out, int... cells) {
        Check.due("phase() of " + what, x.phase(), out);
        for (int n = 0; n < cells.length; n++) {
            Check.due("cell of " + n + " of " + what, x.cartOf(n, 0), cells[n]);
        }
        Check.due("no pushes by " + what, x.count(9), 0);
        for (int n = 0; n < cells.length; n++) {
            Check.due("no damage of " + n + " by " + what, x.cartOf(n, 2), 0);
        }
    }

    private static void directions() {
        LockedCarts x = board(9, UP, 12, RIGHT, 41, DOWN, 44, LEFT);
        carts(x, 9, 12, 41, 44);
        carried(x, "four directions", 0, 1, 13, 49, 43);
        Check.due("a belt does not turn", x.cartOf(0, 1), 1);
        carried(x, "floor", 0, 1, 13, 49, 43);
    }

    private static void offTheBoard() {
        LockedCarts x = board(3, UP, 31, RIGHT, 60, DOWN, 32, LEFT);
        carts(x, 3, 31, 60, 32);
        carried(x, "the edges", 4, NOT_FOUND, NOT_FOUND, NOT_FOUND, NOT_FOUND);
        Check.due("carts that are out", x.count(4), 4);
        LockedCarts y = board(31, RIGHT, 30, RIGHT, 23, RIGHT);
        carts(y, 31, 30, 23);
        carried(y, "a row over the edge", 2, NOT_FOUND, 31, NOT_FOUND);
    }

    private static void walls() {
        LockedCarts x = board(10, RIGHT, 31, RIGHT, 18, UP);
        x.wall(11, 3);
        x.wall(31, 1);
        carts(x, 10, 31, 18);
        carried(x, "walls", 0, 10, 31, 18);
        x.wall(10, 1);
        x.wall(10, 0);
        carried(x, "walls on other sides", 0, 11, 31, 10);
    }

    private static void intoPits() {
        LockedCarts x = board(10, RIGHT, 11, PIT, 9, RIGHT);
        carts(x, 10, 9);
        carried(x, "a pit", 1, NOT_FOUND, 10);
        LockedCarts y = board(10, RIGHT, 11, PIT, 12, LEFT);
        carts(y, 10, 12);
        carried(y, "a pit that two want", 0, 10, 12);
    }

    private static void rows() {
        LockedCarts x = board(8, RIGHT, 9, RIGHT, 10, RIGHT, 11, DOWN);
        carts(x, 8, 11, 10, 9);
        carried(x, "a row", 0, 9, 19, 11, 10);
        LockedCarts y = board(8, RIGHT, 9, RIGHT, 10, RIGHT, 11, RIGHT);
        carts(y, 11, 10, 9, 8);
        carried(y, "a row the other way", 0, 12, 11, 10, 9);
    }

    private static void blocked() {
        LockedCarts x = board(8, RIGHT, 9, RIGHT, 10, RIGHT);
        carts(x, 8, 9, 10, 11);
        carried(x, "a row ahead of a cart on floor", 0, 8, 9, 10, 11);
        LockedCarts y = board(8, RIGHT, 9, RIGHT, 10, RIGHT, 11, RIGHT);
        y.wall(11, 1);
        carts(y, 11, 10, 9, 8);
        carried(y, "a row ahead of a wall", 0, 11, 10, 9, 8);
    }

    private static void rings() {
        LockedCarts x = board(0, RIGHT, 1, DOWN, 9, LEFT, 8, UP);
        carts(x, 0, 1, 9, 8);
        carried(x, "a ring", 0, 1, 9, 8, 0);
        x.wall(1, 2);
        carried(x, "a ring with a wall", 0, 1, 9, 8, 0);
        LockedCarts y = board(0, RIGHT, 1, DOWN, 9, LEFT, 8, UP);
        carts(y, 0, 1, 9);
        carried(y, "a ring with a gap", 0, 1, 9, 8);
        // One outside wants to a cell of the ring: neither it nor its rival is carried, those ahead are.
        LockedCarts z = board(8, RIGHT, 9, DOWN, 17, LEFT, 16, UP, 10, LEFT);
        carts(z, 8, 9, 17, 10);
        carried(z, "a ring that another wants into", 0, 8, 17, 16, 10);
    }

    private static void faceToFace() {
        LockedCarts x = board(10, RIGHT, 11, LEFT, 9, RIGHT, 19, UP);
        carts(x, 10, 11, 9);
        carried(x, "two face to face", 0, 10, 11, 9);
        LockedCarts y = board(10, RIGHT, 11, LEFT);
        y.wall(10, 1);
        carts(y, 10, 11);
        carried(y, "two face to face at a wall", 0, 10, 11);
    }

    private static void sameCell() {
        LockedCarts x = board(10, RIGHT, 12, LEFT, 3, DOWN, 9, RIGHT);
        carts(x, 10, 12, 3, 9);
        carried(x, "three that want to a cell", 0, 10, 12, 3, 9);
        // A cart on the wanted cell that is carried away lets none of two rivals in.
        LockedCarts y = board(10, RIGHT, 12, LEFT, 11, DOWN);
        carts(y, 10, 12, 11);
        carried(y, "rivals behind one that is carried", 0, 10, 12, 19);
        // A belt without a cart wants nothing; nor does a cart that is out.
        LockedCarts z = board(10, RIGHT, 12, LEFT);
        carts(z, 10, 0);
        carried(z, "an empty belt", 0, 11, 0);
    }

    private static void sameCellAtAWall() {
        LockedCarts x = board(10, RIGHT, 12, LEFT);
        x.wall(12, 3);
        carts(x, 10, 12);
        carried(x, "a rival that a wall stops", 0, 10, 12);
        // Two that want off the board do not want to the same cell.
        LockedCarts y = board(0, UP, 1, UP, 8, LEFT);
        carts(y, 0, 1, 8);
        carried(y, "three off the board", 3, NOT_FOUND, NOT_FOUND, NOT_FOUND);
    }

    private static void behindCards() {
        LockedCarts x = board(28, DOWN, 36, DOWN);
        x.cart(27, 1);
        x.card(0, 0, 0, 1);
        carried(x, "a belt reached by a card", 0, 36);
        carried(x, "one cell in a phase", 0, 44);
    }
}
