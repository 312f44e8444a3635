/** Edges of the section 'Board' and of the promises 1 to 4 and 10. */
final class BoardEdges {
    private static final int NOT_POSSIBLE = LockedCarts.NOT_POSSIBLE;
    private static final int NOT_FOUND = LockedCarts.NOT_FOUND;

    private BoardEdges() {
    }

    static void all() {
        newObject();
        constants();
        lastCalls();
        columnsAndRows();
        directions();
        floorsAndBelts();
        gears();
        pitsAndRepairs();
        wallsOfBothCells();
        wallsAtTheBorder();
        flagsAtMost();
        kind();
        wall();
        flag();
        cellOf();
    }

    private static void newObject() {
        Edge.of(1, "`LockedCarts()`: Creates a board of floor without carts.");
        LockedCarts x = new LockedCarts();
        for (int cell = 0; cell < 64; cell++) {
            Edge.due("kind of " + cell, x.cellOf(cell, 0), 0);
            Edge.due("walls of " + cell, x.cellOf(cell, 1), 0);
            Edge.due("cart on " + cell, x.cellOf(cell, 2), NOT_FOUND);
        }
        Edge.due("carts", x.count(0), 0);
        Edge.due("phase()", x.phase(), NOT_POSSIBLE);
        Edge.due("the first cart", x.cart(63, 0), 0);
        Edge.due("carts then", x.count(0), 1);
    }

    private static void constants() {
        Edge.of(1, "Changes and errors", "The constants: ");
        Edge.of(2, "Changes and errors",
            "`INVALID_ARGUMENT = -1000001`: An argument is out of its range, or there is no such cart.");
        Edge.due("the constant", LockedCarts.INVALID_ARGUMENT, -1000001);
        Edge.due("kind(64, 0)", new LockedCarts().kind(64, 0), -1000001);
        Edge.due("cartOf(0, 0)", new LockedCarts().cartOf(0, 0), -1000001);
        Edge.of(8, "Changes and errors", "`NOT_POSSIBLE = -1000002`: The call is not possible in the present state.");
        Edge.due("the constant", LockedCarts.NOT_POSSIBLE, -1000002);
        Edge.due("phase()", new LockedCarts().phase(), -1000002);
        Edge.of(5, "Changes and errors", "`LIMIT_REACHED = -1000003`: A fixed limit has been reached.");
        Edge.due("the constant", LockedCarts.LIMIT_REACHED, -1000003);
        Edge.due("a fifth cart", Races.of(0, 0, 1, 0, 2, 0, 3, 0).cart(4, 0), -1000003);
        Edge.of(10, "Changes and errors", "`NOT_FOUND = -1000004`: There is no such value.");
        Edge.due("the constant", LockedCarts.NOT_FOUND, -1000004);
        Edge.due("cellOf(0, 2)", new LockedCarts().cellOf(0, 2), -1000004);
    }

    private static void lastCalls() {
        Edge.of(1, "What it is", "An object is used for at most 512 calls after it has been made");
        LockedCarts x = Races.of(27, 1);
        x.kind(27, 6);
        x.kind(27, 5);
        for (int call = 4; call <= 508; call++) {
            x.phase();
        }
        // 505 quarters to the left, from 1 on.
        Edge.due("call 509", x.count(6), 505);
        Edge.due("call 510", x.cartOf(0, 1), 0);
        Edge.due("call 511", x.undo(), 3);
        Edge.due("call 512", x.cartOf(0, 1), 1);
    }

    private static void columnsAndRows() {
        Edge.of(8, "Board", "The board has 8 columns, x from 0 to 7, and 8 rows, y from 0 to 7 (0 is above); "
            + "a cell is told by its number 8 * y + x.");
        int[] lastButOne = {12, 38, 51, 33};
        int[] last = {4, 39, 59, 32};
        for (int direction = 0; direction < 4; direction++) {
            LockedCarts x = Races.moving(lastButOne[direction], direction, 0);
            x.card(0, 1, 0, 1);
            Edge.due("phase() to the last cell in " + direction, x.phase(), 0);
            Edge.due("that cell", x.cartOf(0, 0), last[direction]);
            Edge.due("phase() behind the last cell", x.phase(), 1);
            Edge.due("its cell then", x.cartOf(0, 0), NOT_FOUND);
        }
        LockedCarts x = new LockedCarts();
        Edge.due("steps from one corner to the other", x.steps(0, 63), 14);
        Edge.due("steps between the other corners", x.steps(56, 7), 14);
        Edge.due("steps from the end of a row to the next one's begin", x.steps(7, 8), 8);
    }

    private static void directions() {
        Edge.of(8, "Board", "Directions are 0 up (y less), 1 right, 2 down, 3 left.");
        int[] ahead = {19, 28, 35, 26};
        for (int direction = 0; direction < 4; direction++) {
            Edge.due("ahead in " + direction, Races.behind(Races.moving(27, direction, 0), 1).cartOf(0, 0),
                ahead[direction]);
        }
    }

    private static LockedCarts onKind(int kind, int direction, int phases) {
        LockedCarts x = Races.of(27, direction);
        x.kind(27, kind);
        x.damage(0, 3);
        return Races.behind(x, phases);
    }

    private static void floorsAndBelts() {
        Edge.of(8, "Board", "A cell is of a kind: 0 floor (all at first), "
            + "1 to 4 a belt with the direction kind less 1, ");
        int[] cells = {27, 19, 28, 35, 26, 27, 27};
        for (int kind = 0; kind <= 6; kind++) {
            Edge.due("cell behind the kind " + kind, onKind(kind, 1, 1).cartOf(0, 0), cells[kind]);
        }
        Edge.due("cell behind the kind 8", onKind(8, 1, 1).cartOf(0, 0), 27);
    }

    private static void gears() {
        Edge.of(8, "Board", "5 a gear that turns to the left, 6 to the right, ");
        int[] left = {3, 0, 1, 2};
        int[] right = {1, 2, 3, 0};
        for (int direction = 0; direction < 4; direction++) {
            Edge.due("left of " + direction, onKind(5, direction, 1).cartOf(0, 1), left[direction]);
            Edge.due("right of " + direction, onKind(6, direction, 1).cartOf(0, 1), right[direction]);
            for (int kind : new int[] {0, 4, 8}) {
                Edge.due("the kind " + kind + " does not turn", onKind(kind, direction, 1).cartOf(0, 1), direction);
            }
        }
    }

    private static void pitsAndRepairs() {
        Edge.of(8, "Board", "7 a pit, 8 a place of repair.");
        for (int kind = 5; kind <= 8; kind++) {
            LockedCarts x = Races.moving(26, 1, 0);
            x.kind(27, kind);
            Edge.due("carts out by a step upon the kind " + kind, x.phase(), kind == 7 ? 1 : 0);
        }
        for (int kind = 0; kind <= 8; kind++) {
            if (kind != 7) {
                Edge.due("damage on the kind " + kind, onKind(kind, 1, 5).cartOf(0, 2), kind == 8 ? 2 : 3);
            }
        }
    }

    private static void wallsOfBothCells() {
        Edge.of(3, "Board", "There can be a wall on each side of a cell; "
            + "it is on that side of both cells between which it stands.");
        int[] beyond = {19, 28, 35, 26};
        int[] sides = {1, 2, 4, 8};
        int[] opposite = {2, 3, 0, 1};
        for (int side = 0; side < 4; side++) {
            LockedCarts x = new LockedCarts();
            Edge.due("wall(27, " + side + ")", x.wall(27, side), 1);
            for (int cell = 0; cell < 64; cell++) {
                int due = cell == 27 ? sides[side] : cell == beyond[side] ? sides[opposite[side]] : 0;
                Edge.due("walls of " + cell + " by the side " + side, x.cellOf(cell, 1), due);
            }
            Edge.due("from the cell beyond", x.wall(beyond[side], opposite[side]), 0);
            Edge.due("walls of 27 then", x.cellOf(27, 1), 0);
        }
    }

    private static void wallsAtTheBorder() {
        Edge.of(3, "Board", "it is on that side of both cells between which it stands.");
        int[] cells = {0, 7, 39, 63, 56, 24};
        int[] sides = {0, 1, 1, 2, 2, 3};
        for (int i = 0; i < cells.length; i++) {
            LockedCarts x = new LockedCarts();
            Edge.due("a wall at the border of " + cells[i], x.wall(cells[i], sides[i]), 1);
            for (int cell = 0; cell < 64; cell++) {
                Edge.due("walls of " + cell, x.cellOf(cell, 1), cell == cells[i] ? 1 << sides[i] : 0);
            }
        }
    }

    private static LockedCarts withFlags(int howMany) {
        LockedCarts x = new LockedCarts();
        for (int flag = 0; flag < howMany; flag++) {
            x.flag(flag, 10 + flag);
        }
        return x;
    }

    private static void flagsAtMost() {
        Edge.of(4, "Board", "There are at most 4 flags, numbered from 0, each on a cell (none at first); ");
        Edge.due("flags at first", withFlags(0).count(3), 0);
        Edge.due("the flag on 0 at first", withFlags(0).cellOf(0, 3), NOT_FOUND);
        Edge.due("the first one", withFlags(0).flag(0, 0), 1);
        Edge.due("a fourth one", withFlags(3).flag(3, 63), 4);
        Edge.refused(() -> withFlags(4), "a fifth one", x -> x.flag(4, 20), LockedCarts.INVALID_ARGUMENT);
        Edge.of(4, "Board", "a flag can be laid only if all lower ones are.");
        for (int laid = 0; laid < 3; laid++) {
            int flags = laid;
            Edge.due("the next one of " + laid, withFlags(laid).flag(laid, 63), laid + 1);
            Edge.refused(() -> withFlags(flags), "the next but one of " + laid, x -> x.flag(flags + 1, 63),
                NOT_POSSIBLE);
        }
    }

    private static void kind() {
        Edge.range(2, "- `cell`: 0 to 63", 0, 63, LockedCarts::new, (x, n) -> x.kind(n, 1));
        Edge.range(2, "- `kind`: 0 to 8", 0, 8, LockedCarts::new, (x, n) -> x.kind(0, n));
        Edge.of(2, "Returns what it was; ");
        LockedCarts x = new LockedCarts();
        Edge.due("kind(63, 8)", x.kind(63, 8), 0);
        Edge.due("kind(63, 0)", x.kind(63, 0), 8);
        Edge.due("kind(63, 0) again", x.kind(63, 0), 0);
        Edge.of(2, "NOT_POSSIBLE for 7 if a cart is on it.");
        Edge.refused(() -> Races.of(27, 1), "7 below a cart", y -> y.kind(27, 7), NOT_POSSIBLE);
        for (int kind : new int[] {0, 6, 8}) {
            Edge.due("another kind below a cart", Races.of(27, 1).kind(27, kind), 0);
        }
        for (int cell : new int[] {26, 28, 19, 35}) {
            Edge.due("7 beside a cart", Races.of(27, 1).kind(cell, 7), 0);
        }
        Edge.due("7 on the start of a cart that is out", Races.withOneOut().kind(0, 7), 0);
        Edge.refused(Races::withOneOut, "7 below the other one", y -> y.kind(27, 7), NOT_POSSIBLE);
    }

    private static void wall() {
        Edge.range(3, "- `cell`: 0 to 63", 0, 63, LockedCarts::new, (x, n) -> x.wall(n, 0));
        Edge.range(3, "- `side`: 0 to 3", 0, 3, LockedCarts::new, (x, n) -> x.wall(0, n));
        Edge.of(3, "Sets a wall, or takes it away if there is one.");
        LockedCarts x = new LockedCarts();
        for (int i = 1; i <= 4; i++) {
            Edge.due("time " + i, x.wall(63, 3), i % 2);
            Edge.due("walls of 63", x.cellOf(63, 1), i % 2 == 1 ? 8 : 0);
            Edge.due("walls of 62", x.cellOf(62, 1), i % 2 == 1 ? 2 : 0);
        }
        Edge.of(3, "Returns 1 if there is a wall then, otherwise 0; ");
        LockedCarts y = new LockedCarts();
        y.wall(27, 1);
        Edge.due("another side of a cell with a wall", y.wall(27, 0), 1);
        Edge.due("a side on which there is one, from the other cell", y.wall(28, 3), 0);
        Edge.due("the one that is left", y.wall(27, 0), 0);
    }

    private static void flag() {
        Edge.range(4, "- `flag`: 0 to 3", 0, 3, () -> withFlags(3), (x, n) -> x.flag(n, 0));
        Edge.range(4, "- `cell`: 0 to 63", 0, 63, LockedCarts::new, (x, n) -> x.flag(0, n));
        Edge.of(4, "Lays a flag, in place of where it was.");
        LockedCarts x = withFlags(4);
        x.flag(3, 63);
        Edge.due("where it is", x.cellOf(63, 3), 3);
        Edge.due("where it was", x.cellOf(13, 3), NOT_FOUND);
        Edge.due("another one", x.cellOf(12, 3), 2);
        Edge.of(4, "Returns how many flags there are then; ");
        for (int laid = 1; laid <= 4; laid++) {
            Edge.due("the first again, of " + laid, withFlags(laid).flag(0, 0), laid);
            Edge.due("the last again, of " + laid, withFlags(laid).flag(laid - 1, 0), laid);
        }
        Edge.of(4, "NOT_POSSIBLE if a lower one is not laid.");
        Edge.due("flag(2, 0), the lower ones laid", withFlags(2).flag(2, 0), 3);
        Edge.refused(() -> withFlags(1), "flag(2, 0), one not laid", y -> y.flag(2, 0), NOT_POSSIBLE);
        Edge.refused(() -> withFlags(0), "flag(1, 0), none laid", y -> y.flag(1, 0), NOT_POSSIBLE);
        Edge.refused(() -> withFlags(2), "flag(3, 0), one not laid", y -> y.flag(3, 0), NOT_POSSIBLE);
    }

    private static LockedCarts full() {
        LockedCarts x = Races.of(63, 0, 0, 0, 27, 1);
        x.kind(63, 8);
        x.flag(0, 63);
        x.flag(1, 0);
        x.flag(2, 0);
        return x;
    }

    private static void cellOf() {
        Edge.range(10, "- `cell`: 0 to 63", 0, 63, BoardEdges::full, (x, n) -> x.cellOf(n, 2));
        Edge.range(10, "- `what`: 0: its kind; 1: its walls, as bits by sides; 2: the cart on it; "
            + "3: the flag on it, the lowest one", 0, 3, BoardEdges::full, (x, n) -> x.cellOf(63, n));
        LockedCarts x = full();
        Edge.due("the kind of 63", x.cellOf(63, 0), 8);
        Edge.due("the kind of 62", x.cellOf(62, 0), 0);
        for (int side = 0; side < 4; side++) {
            x.wall(63, side);
            Edge.due("walls up to the side " + side, x.cellOf(63, 1), (2 << side) - 1);
        }
        Edge.due("the cart on 63", x.cellOf(63, 2), 0);
        Edge.due("the cart on 27", x.cellOf(27, 2), 2);
        Edge.due("the lowest flag on 0", x.cellOf(0, 3), 1);
        x.flag(1, 1);
        Edge.due("the lowest flag on 0 then", x.cellOf(0, 3), 2);
        Edge.of(10, "NOT_FOUND for 2 and 3 if there is none.");
        Edge.due("the cart on 26", x.cellOf(26, 2), NOT_FOUND);
        Edge.due("the flag on 26", x.cellOf(26, 3), NOT_FOUND);
        Edge.due("the flag 0 is one", x.cellOf(63, 3), 0);
        Edge.due("the cart where one went out", Races.withOneOut().cellOf(0, 2), NOT_FOUND);
    }
}
