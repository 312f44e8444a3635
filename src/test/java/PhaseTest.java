/** Promises 8 and 13: the cards of a phase, steps and pushing, gears, flags; turn. */
public final class PhaseTest {
    private static final int INVALID = LockedCarts.INVALID_ARGUMENT;
    private static final int NOT_POSSIBLE = LockedCarts.NOT_POSSIBLE;
    private static final int NOT_FOUND = LockedCarts.NOT_FOUND;

    public static void main(String[] args) {
        noCart();
        moves();
        edges();
        wallsStop();
        pits();
        pushing();
        pushingStopped();
        pushingOut();
        pushedOutAheadOfItsCard();
        damageOfBumps();
        order();
        turns();
        gears();
        flags();
        allFlags();
        winner();
        Check.finish();
    }

    private static void at(LockedCarts x, String when, int cart, int cell, int direction) {
        Check.due("cell of " + cart + " " + when, x.cartOf(cart, 0), cell);
        Check.due("direction of " + cart + " " + when, x.cartOf(cart, 1), direction);
    }

    private static void noCart() {
        LockedCarts x = new LockedCarts();
        Check.due("phase() without carts", x.phase(), NOT_POSSIBLE);
        x.cart(0, 0);
        Check.due("phase() without cards", x.phase(), 0);
        Check.due("the next phase", x.count(1), 1);
        Check.due("phases", x.count(6), 1);
    }

    private static void moves() {
        int[] ahead = {-8, 1, 8, -1};
        for (int direction = 0; direction < 4; direction++) {
            int[] cells = {27 + ahead[direction], 27 + 2 * ahead[direction], 27 + 3 * ahead[direction],
                27 - ahead[direction], 27, 27, 27};
            int[] directions = {direction, direction, direction, direction,
                (direction + 3) % 4, (direction + 1) % 4, (direction + 2) % 4};
            for (int move = 0; move < 7; move++) {
                LockedCarts x = new LockedCarts();
                x.cart(27, direction);
                x.card(0, 0, move, 1);
                Check.due("phase() of move " + move, x.phase(), 0);
                at(x, "of move " + move + " from " + direction, 0, cells[move], directions[move]);
                Check.due("no damage", x.cartOf(0, 2), 0);
                Check.due("not stopped", x.cartOf(0, 8), 0);
                Check.due("no pushes", x.count(9), 0);
            }
        }
    }

    private static void edges() {
        int[] cells = {3, 31, 59, 32};
        for (int direction = 0; direction < 4; direction++) {
            LockedCarts x = new LockedCarts();
            x.cart(cells[direction], direction);
            x.card(0, 0, 1, 1);
            Check.due("phase() over the edge " + direction, x.phase(), 1);
            Check.due("it is out", x.cartOf(0, 0), NOT_FOUND);
            Check.due("it has no direction", x.cartOf(0, 1), NOT_FOUND);
            Check.due("it was out once", x.cartOf(0, 7), 1);
            Check.due("it has no damage by it", x.cartOf(0, 2), 0);
            Check.due("carts that are out", x.count(4), 1);
            Check.due("the next phase, with no cart on the board", x.phase(), 0);
            LockedCarts y = new LockedCarts();
            y.cart(cells[direction], direction);
            y.wall(cells[direction], direction);
            y.card(0, 0, 1, 1);
            Check.due("phase() with a wall at the edge " + direction, y.phase(), 0);
            at(y, "behind the wall", 0, cells[direction], direction);
            Check.due("damage by the wall", y.cartOf(0, 2), 1);
        }
    }

    private static void wallsStop() {
        LockedCarts x = new LockedCarts();
        x.cart(24, 1);
        x.wall(27, 3);
        x.card(0, 0, 2, 1);
        x.phase();
        at(x, "two steps ahead of a wall", 0, 26, 1);
        Check.due("damage", x.cartOf(0, 2), 1);
        Check.due("stopped", x.cartOf(0, 8), 1);
        x.card(0, 1, 2, 1);
        x.phase();
        Check.due("one more damage for the whole move", x.cartOf(0, 2), 2);
        Check.due("stopped twice", x.cartOf(0, 8), 2);
        LockedCarts y = new LockedCarts();
        y.cart(24, 1);
        y.wall(24, 1);
        y.wall(24, 0);
        y.card(0, 0, 3, 1);
        Check.due("a step back off the board", y.phase(), 1);
    }

    private static void pits() {
        LockedCarts x = new LockedCarts();
        x.cart(24, 1);
        x.kind(26, 7);
        x.card(0, 0, 2, 1);
        Check.due("phase() into a pit", x.phase(), 1);
        Check.due("it is out", x.cartOf(0, 0), NOT_FOUND);
        Check.due("no cart on the pit", x.cellOf(26, 2), NOT_FOUND);
        Check.due("nor beyond it", x.cellOf(27, 2), NOT_FOUND);
    }

    private static void pushing() {
        LockedCarts x = new LockedCarts();
        x.cart(24, 1);
        x.cart(26, 0);
        x.cart(28, 2);
        x.card(0, 0, 2, 1);
        Check.due("phase() that pushes", x.phase(), 0);
        at(x, "that pushes", 0, 27, 1);
        at(x, "that is pushed", 1, 28, 0);
        at(x, "that is pushed by a pushed one", 2, 29, 2);
        Check.due("pushes", x.count(9), 3);
        Check.due("no damage by pushing", x.cartOf(0, 2) + x.cartOf(1, 2) + x.cartOf(2, 2), 0);
    }

    private static void pushingStopped() {
        LockedCarts x = new LockedCarts();
        x.cart(24, 1);
        x.cart(26, 0);
        x.cart(27, 2);
        x.wall(27, 1);
        x.card(0, 0, 2, 1);
        x.phase();
        at(x, "that is stopped", 0, 25, 1);
        at(x, "that is stopped as pushed", 1, 26, 0);
        at(x, "at the wall", 2, 27, 2);
        Check.due("pushes of a stopped row", x.count(9), 0);
        Check.due("damage of whose move it is", x.cartOf(0, 2), 1);
        Check.due("damage of the pushed", x.cartOf(1, 2) + x.cartOf(2, 2), 0);
        Check.due("stopped", x.cartOf(0, 8), 1);
        Check.due("stopped by another's move", x.cartOf(1, 8) + x.cartOf(2, 8), 0);
        // A wall between two carts keeps the one from pushing the other.
        LockedCarts y = new LockedCarts();
        y.cart(24, 1);
        y.cart(25, 1);
        y.wall(25, 3);
        y.card(0, 0, 0, 1);
        y.phase();
        at(y, "at a wall between carts", 0, 24, 1);
        at(y, "beyond the wall", 1, 25, 1);
        Check.due("damage at a wall between carts", y.cartOf(0, 2), 1);
    }

    private static void pushingOut() {
        LockedCarts x = new LockedCarts();
        x.cart(58, 3);
        x.cart(57, 3);
        x.cart(56, 3);
        x.card(0, 0, 1, 1);
        Check.due("phase() that pushes two off the board", x.phase(), 2);
        at(x, "behind pushing off the board", 0, 56, 3);
        Check.due("pushes, those out as well", x.count(9), 3);
        Check.due("carts that are out", x.count(4), 2);
        // A pit in the way of a row takes the first one; the others go on.
        LockedCarts y = new LockedCarts();
        y.cart(24, 1);
        y.cart(25, 1);
        y.kind(26, 7);
        y.card(0, 0, 2, 1);
        Check.due("phase() that pushes into a pit and follows", y.phase(), 2);
        Check.due("the pushes", y.count(9), 1);
        Check.due("damage of a pusher that is out", y.cartOf(0, 2), 0);
    }

    private static void pushedOutAheadOfItsCard() {
        LockedCarts x = new LockedCarts();
        x.cart(1, 3);
        x.cart(0, 1);
        x.cart(8, 0);
        x.card(0, 0, 0, 9);
        x.card(1, 0, 1, 8);
        x.card(2, 0, 0, 7);
        Check.due("turn(1)", x.turn(1), 1);
        Check.due("phase()", x.phase(), 2);
        Check.due("its own card does nothing", x.cartOf(1, 0), NOT_FOUND);
        at(x, "that pushed both out", 2, 0, 0);
        Check.due("pushes", x.count(9), 2);
    }

    private static void damageOfBumps() {
        LockedCarts x = new LockedCarts();
        x.cart(0, 0);
        x.wall(0, 0);
        x.damage(0, 8);
        x.damage(0, 1);
        x.damage(0, -9);
        x.card(0, 0, 0, 1);
        x.damage(0, 9);
        x.phase();
        Check.due("damage is held at 9", x.cartOf(0, 2), 9);
        Check.due("it was stopped all the same", x.cartOf(0, 8), 1);
    }

    private static void order() {
        // Whose card comes first pushes the other aside or not.
        LockedCarts x = new LockedCarts();
        x.cart(27, 1);
        x.cart(20, 2);
        x.card(0, 0, 0, 5);
        x.card(1, 0, 0, 6);
        x.phase();
        at(x, "with the greater rank, pushed then", 1, 29, 2);
        at(x, "with the smaller rank", 0, 28, 1);
        LockedCarts y = new LockedCarts();
        y.cart(27, 1);
        y.cart(20, 2);
        y.card(0, 0, 0, 6);
        y.card(1, 0, 0, 6);
        y.phase();
        at(y, "the lowest of equal ranks, pushed then", 0, 36, 1);
        at(y, "the other of equal ranks", 1, 28, 2);
    }

    private static void turns() {
        LockedCarts x = new LockedCarts();
        Check.due("turn(0) without carts", x.turn(0), NOT_FOUND);
        Check.due("turn(-1)", x.turn(-1), INVALID);
        for (int n = 0; n < 4; n++) {
            x.cart(8 * n + 8, 1);
        }
        Check.due("turn(0) without cards", x.turn(0), NOT_FOUND);
        x.card(0, 0, 4, 100);
        x.card(1, 0, 4, 200);
        x.card(2, 0, 4, 100);
        x.card(3, 0, 4, 999);
        x.card(2, 1, 3, 1);
        int[] first = {3, 1, 0, 2, NOT_FOUND};
        for (int place = 0; place < first.length; place++) {
            Check.due("turn(" + place + ")", x.turn(place), first[place]);
        }
        Check.due("turn(999999999)", x.turn(999999999), NOT_FOUND);
        Check.due("no state by reading", x.count(7), 4);
        x.phase();
        Check.due("turn(0) of the next phase", x.turn(0), 2);
        Check.due("turn(1) of the next phase", x.turn(1), NOT_FOUND);
        LockedCarts y = new LockedCarts();
        y.cart(0, 0);
        y.cart(9, 0);
        y.card(0, 1, 0, 9);
        y.card(0, 0, 0, 9);
        y.card(1, 1, 0, 2);
        y.phase();
        Check.due("a cart that is out has no turn", y.turn(0), 1);
        Check.due("and takes no place", y.turn(1), NOT_FOUND);
    }

    private static void gears() {
        for (int direction = 0; direction < 4; direction++) {
            LockedCarts x = new LockedCarts();
            x.cart(27, direction);
            x.cart(28, direction);
            x.kind(27, 5);
            x.kind(28, 6);
            x.phase();
            at(x, "on a gear to the left", 0, 27, (direction + 3) % 4);
            at(x, "on a gear to the right", 1, 28, (direction + 1) % 4);
        }
        // Gears turn behind the cards and the belts.
        LockedCarts x = new LockedCarts();
        x.cart(27, 1);
        x.kind(28, 2);
        x.kind(29, 5);
        x.card(0, 0, 0, 1);
        x.phase();
        at(x, "carried to a gear", 0, 29, 0);
    }

    private static void flags() {
        LockedCarts x = new LockedCarts();
        x.cart(27, 1);
        x.flag(0, 28);
        x.flag(1, 28);
        x.flag(2, 27);
        x.card(0, 0, 0, 1);
        x.card(0, 2, 1, 1);
        x.card(0, 3, 3, 1);
        x.card(0, 4, 3, 1);
        x.phase();
        Check.due("one flag in a phase", x.cartOf(0, 3), 1);
        x.phase();
        Check.due("the next one there", x.cartOf(0, 3), 2);
        x.phase();
        Check.due("flags in their order", x.cartOf(0, 3), 2);
        x.phase();
        Check.due("no flag that it has touched", x.cartOf(0, 3), 2);
        x.flag(2, 28);
        x.phase();
        Check.due("a flag that was laid elsewhere", x.cartOf(0, 3), 3);
        x.phase();
        Check.due("no next flag", x.cartOf(0, 3), 3);
        // A flag that is only passed by, or stood upon before the belt carries on, is not touched.
        LockedCarts y = new LockedCarts();
        y.cart(24, 1);
        y.flag(0, 26);
        y.card(0, 0, 2, 1);
        y.phase();
        Check.due("a flag passed by", y.cartOf(0, 3), 0);
        y.cart(32, 1);
        y.kind(33, 2);
        y.flag(0, 33);
        y.card(1, 1, 0, 1);
        y.phase();
        Check.due("a flag on a belt that carries on", y.cartOf(1, 3), 0);
        y.flag(0, 35);
        y.kind(34, 2);
        y.phase();
        Check.due("a flag to which a belt carries", y.cartOf(1, 3), 1);
    }

    private static void allFlags() {
        LockedCarts x = new LockedCarts();
        x.cart(0, 1);
        x.phase();
        Check.due("a flag that is not laid", x.cartOf(0, 3), 0);
        for (int flag = 0; flag < 4; flag++) {
            x.flag(flag, 0);
        }
        for (int touched = 1; touched <= 4; touched++) {
            x.phase();
            Check.due("flags touched", x.cartOf(0, 3), touched);
            Check.due("the first", x.count(5), touched < 4 ? NOT_FOUND : 0);
        }
        Check.due("phase() behind all flags", x.phase(), 0);
        Check.due("no fifth flag", x.cartOf(0, 3), 4);
    }

    private static void winner() {
        LockedCarts x = new LockedCarts();
        x.cart(27, 1);
        x.cart(28, 1);
        x.phase();
        Check.due("none touches all of no flags", x.count(5), NOT_FOUND);
        x.flag(0, 28);
        x.flag(1, 60);
        x.phase();
        Check.due("none has touched both", x.count(5), NOT_FOUND);
        x.flag(1, 28);
        x.phase();
        Check.due("the first with both", x.count(5), 1);
        x.flag(2, 63);
        Check.due("it stays with a flag more", x.count(5), 1);
        x.undo();
        x.undo();
        Check.due("undone", x.count(5), NOT_FOUND);
        LockedCarts y = new LockedCarts();
        y.cart(10, 0);
        y.cart(20, 0);
        y.flag(0, 20);
        y.flag(0, 10);
        y.phase();
        y.flag(0, 20);
        y.phase();
        Check.due("a later one is not the first", y.count(5), 0);
        // Two that have touched a flag each, but not as many as there are.
        LockedCarts z = new LockedCarts();
        z.cart(20, 0);
        z.cart(10, 0);
        z.flag(0, 10);
        z.phase();
        Check.due("the only one", z.count(5), 1);
        z.undo();
        z.flag(0, 20);
        z.flag(1, 63);
        z.phase();
        z.flag(0, 10);
        z.phase();
        Check.due("each has touched one of two", z.cartOf(0, 3) + z.cartOf(1, 3), 2);
        Check.due("none as many as there are", z.count(5), NOT_FOUND);
    }
}
