/** Promises 14 to 16: would, best, steps. */
public final class AheadTest {
    private static final int INVALID = LockedCarts.INVALID_ARGUMENT;
    private static final int NOT_POSSIBLE = LockedCarts.NOT_POSSIBLE;
    private static final int NOT_FOUND = LockedCarts.NOT_FOUND;

    public static void main(String[] args) {
        wouldBe();
        wouldComeBack();
        wouldAsDone();
        wouldRefused();
        bestMoves();
        bestOfSeveral();
        bestBehindTheWholePhase();
        bestByRank();
        bestWithoutPits();
        bestOfTheLastPhase();
        bestOutByEachMove();
        bestRefused();
        stepsAround();
        stepsRefused();
        Check.finish();
    }

    private static void wouldBe() {
        LockedCarts x = new LockedCarts();
        x.cart(24, 1);
        x.flag(0, 25);
        x.wall(26, 1);
        x.card(0, 0, 0, 1);
        x.card(0, 1, 1, 1);
        x.card(0, 2, 4, 1);
        int[][] due = {{24, 1, 0, 0}, {25, 1, 0, 1}, {26, 1, 1, 1}, {26, 0, 1, 1}, {26, 0, 1, 1}};
        for (int phases = 0; phases < due.length; phases++) {
            for (int what = 0; what < 4; what++) {
                Check.due("would(0, " + phases + ", " + what + ")", x.would(0, phases, what), due[phases][what]);
            }
        }
    }

    private static void wouldComeBack() {
        LockedCarts x = new LockedCarts();
        x.cart(1, 0);
        x.damage(0, 1);
        x.card(0, 1, 0, 1);
        Check.due("ahead of going out", x.would(0, 1, 0), 1);
        for (int phases = 2; phases <= 4; phases++) {
            Check.due("out behind " + phases, x.would(0, phases, 0), NOT_FOUND);
            Check.due("no direction behind " + phases, x.would(0, phases, 1), NOT_FOUND);
            Check.due("damage behind " + phases, x.would(0, phases, 2), 1);
            Check.due("flags behind " + phases, x.would(0, phases, 3), 0);
        }
        Check.due("back behind 5", x.would(0, 5, 0), 1);
        Check.due("damage behind 5", x.would(0, 5, 2), 2);
        Check.due("behind 20", x.would(0, 20, 0), 1);
        x.phase();
        x.phase();
        Check.due("out now", x.would(0, 0, 0), NOT_FOUND);
        Check.due("damage now", x.would(0, 0, 2), 1);
        Check.due("behind 3 from the phase 2 on", x.would(0, 3, 0), 1);
    }

    /** What would be is what is when the phases are done. */
    private static void wouldAsDone() {
        LockedCarts x = new LockedCarts();
        x.cart(0, 1);
        x.cart(5, 3);
        x.kind(3, 3);
        x.kind(11, 5);
        x.damage(0, 7);
        for (int register = 0; register < 2; register++) {
            x.card(0, register, register, 10);
            x.card(1, register, 6 - register, 20);
        }
        int[] cells = new int[21];
        for (int phases = 0; phases <= 20; phases++) {
            cells[phases] = x.would(0, phases, 0);
        }
        for (int phases = 0; phases <= 20; phases++) {
            Check.due("its cell behind " + phases, x.cartOf(0, 0), cells[phases]);
            x.phase();
        }
    }

    private static void wouldRefused() {
        LockedCarts x = new LockedCarts();
        x.cart(0, 1);
        Check.due("would(0, 20, 0)", x.would(0, 20, 0), 0);
        Check.due("would(-1, 0, 0)", x.would(-1, 0, 0), INVALID);
        Check.due("would(1, 0, 0)", x.would(1, 0, 0), INVALID);
        Check.due("would(0, -1, 0)", x.would(0, -1, 0), INVALID);
        Check.due("would(0, 21, 0)", x.would(0, 21, 0), INVALID);
        Check.due("would(0, 0, -1)", x.would(0, 0, -1), INVALID);
        Check.due("would(0, 0, 4)", x.would(0, 0, 4), INVALID);
    }

    private static void best(LockedCarts x, String what, int cart, int rank, int move, int distance) {
        Check.due("best move " + what, x.best(cart, rank, 0), move);
        Check.due("its distance " + what, x.best(cart, rank, 1), distance);
    }

    private static void bestMoves() {
        for (int move = 0; move <= 2; move++) {
            LockedCarts x = new LockedCarts();
            x.cart(24, 1);
            x.flag(0, 25 + move);
            best(x, "to a flag ahead", 0, 1, move, 0);
        }
        LockedCarts back = new LockedCarts();
        back.cart(27, 1);
        back.flag(0, 26);
        best(back, "to a flag behind", 0, 1, 3, 0);
        LockedCarts far = new LockedCarts();
        far.cart(9, 1);
        far.flag(0, 63);
        best(far, "to a flag afar", 0, 1, 2, 9);
        LockedCarts over = new LockedCarts();
        over.cart(9, 1);
        over.flag(0, 17);
        best(over, "to a flag beside", 0, 1, 4, 1);
        // The flag that is the next one now, though the phase touches it.
        LockedCarts two = new LockedCarts();
        two.cart(24, 1);
        two.flag(0, 25);
        two.flag(1, 31);
        best(two, "with a flag more", 0, 1, 0, 0);
        two.card(0, 0, 0, 1);
        two.phase();
        best(two, "to the flag more", 0, 1, 2, 3);
    }

    private static void bestOfSeveral() {
        LockedCarts x = new LockedCarts();
        x.cart(24, 1);
        x.flag(0, 27);
        x.wall(25, 1);
        best(x, "of three that end at a wall", 0, 1, 0, 2);
        // The card that lies there has no say.
        x.card(0, 0, 3, 9);
        best(x, "in place of a card", 0, 1, 0, 2);
    }

    private static void bestBehindTheWholePhase() {
        LockedCarts x = new LockedCarts();
        x.cart(24, 1);
        x.flag(0, 34);
        x.kind(26, 3);
        best(x, "with a belt", 0, 1, 1, 0);
        LockedCarts y = new LockedCarts();
        y.cart(24, 1);
        y.cart(35, 0);
        y.flag(0, 27);
        y.card(1, 0, 0, 500);
        best(y, "when the other one goes ahead", 0, 499, 2, 0);
    }

    private static void bestByRank() {
        LockedCarts x = new LockedCarts();
        x.cart(24, 1);
        x.cart(34, 0);
        x.flag(0, 26);
        x.card(1, 0, 0, 500);
        // First, it would be pushed up from the flag; afterwards it pushes the other one.
        best(x, "with the greater rank", 0, 501, 0, 1);
        best(x, "with an equal rank, as the lowest", 0, 500, 0, 1);
        best(x, "with a smaller rank", 0, 499, 1, 0);
    }

    private static void bestWithoutPits() {
        LockedCarts x = new LockedCarts();
        x.cart(24, 1);
        x.flag(0, 27);
        x.kind(25, 7);
        best(x, "ahead of a pit", 0, 1, 4, 3);
        LockedCarts y = new LockedCarts();
        y.cart(30, 1);
        y.flag(0, 23);
        best(y, "ahead of the edge", 0, 1, 0, 1);
    }

    private static void bestOfTheLastPhase() {
        // Out in the phase 4, it comes back upon the flag, but counts as out.
        LockedCarts x = new LockedCarts();
        x.cart(0, 0);
        x.flag(0, 0);
        x.card(0, 0, 5, 1);
        x.card(0, 1, 1, 1);
        x.card(0, 2, 4, 1);
        x.flag(0, 63);
        for (int i = 0; i < 4; i++) {
            x.phase();
        }
        x.flag(0, 0);
        Check.due("its cell", x.cartOf(0, 0), 2);
        Check.due("the next phase", x.count(1), 4);
        best(x, "at the edge in the phase 4", 0, 1, 4, 2);
    }

    private static void bestOutByEachMove() {
        LockedCarts x = new LockedCarts();
        x.cart(0, 0);
        x.flag(0, 9);
        x.kind(0, 4);
        x.kind(8, 7);
        Check.due("best that is out by each move", x.best(0, 1, 0), NOT_FOUND);
        Check.due("its distance", x.best(0, 1, 1), NOT_FOUND);
        x.kind(8, 0);
        best(x, "that goes back", 0, 1, 3, 1);
        // In the phase 4 it would be out as well, and come back to its start.
        x.kind(8, 7);
        x.kind(0, 0);
        for (int i = 0; i < 4; i++) {
            x.phase();
        }
        x.kind(0, 4);
        Check.due("best that is out by each move in the phase 4", x.best(0, 1, 0), NOT_FOUND);
    }

    private static void bestRefused() {
        LockedCarts x = new LockedCarts();
        x.cart(27, 0);
        Check.due("best without a flag", x.best(0, 1, 0), NOT_POSSIBLE);
        x.flag(0, 0);
        Check.due("best with a flag", x.best(0, 1, 0), 2);
        x.damage(0, 8);
        Check.due("best with the register 0 free", x.best(0, 999, 0), 2);
        x.damage(0, 1);
        Check.due("best with the register 0 locked", x.best(0, 1, 0), NOT_POSSIBLE);
        Check.due("best(-1, 1, 0)", x.best(-1, 1, 0), INVALID);
        Check.due("best(1, 1, 0)", x.best(1, 1, 0), INVALID);
        Check.due("best(0, 0, 0)", x.best(0, 0, 0), INVALID);
        Check.due("best(0, 1000, 0)", x.best(0, 1000, 0), INVALID);
        Check.due("best(0, 1, -1)", x.best(0, 1, -1), INVALID);
        Check.due("best(0, 1, 2)", x.best(0, 1, 2), INVALID);
        x.damage(0, -4);
        for (int i = 0; i < 4; i++) {
            x.phase();
        }
        Check.due("best with the register 4 locked", x.best(0, 1, 0), NOT_POSSIBLE);
        x.damage(0, -1);
        Check.due("best with the register 4 free", x.best(0, 1, 0), 2);
        LockedCarts y = new LockedCarts();
        y.cart(0, 0);
        y.cart(20, 0);
        y.flag(0, 20);
        y.card(0, 0, 0, 1);
        y.phase();
        Check.due("best of one that is out", y.best(0, 1, 0), NOT_POSSIBLE);
        Check.due("best of one that has touched all", y.best(1, 1, 0), NOT_POSSIBLE);
    }

    private static void stepsAround() {
        LockedCarts x = new LockedCarts();
        Check.due("steps(0, 63)", x.steps(0, 63), 14);
        Check.due("steps(7, 8)", x.steps(7, 8), 8);
        Check.due("steps(27, 27)", x.steps(27, 27), 0);
        x.cart(1, 0);
        x.cart(8, 0);
        Check.due("as if there were no carts", x.steps(0, 9), 2);
        x.wall(0, 1);
        Check.due("around a wall", x.steps(0, 1), 3);
        Check.due("around it the other way", x.steps(1, 0), 3);
        x.wall(0, 2);
        Check.due("no way", x.steps(0, 1), NOT_FOUND);
        Check.due("no way the other way", x.steps(63, 0), NOT_FOUND);
        x.wall(8, 0);
        x.kind(9, 7);
        Check.due("around a pit", x.steps(0, 10), 5);
        Check.due("to a pit", x.steps(10, 9), NOT_FOUND);
        Check.due("from a pit", x.steps(9, 0), 2);
        Check.due("from a pit, not through a wall", x.steps(9, 1), 1);
        Check.due("from a pit to itself", x.steps(9, 9), 0);
        x.kind(17, 7);
        Check.due("from a pit to a pit beside it", x.steps(9, 17), NOT_FOUND);
        x.kind(56, 1);
        x.kind(57, 5);
        x.kind(58, 8);
        Check.due("belts, gears and repairs are no hindrance", x.steps(56, 59), 3);
        // A way through a long row of walls.
        LockedCarts y = new LockedCarts();
        for (int cell = 0; cell < 7; cell++) {
            y.wall(8 + cell, 2);
            y.wall(25 + cell, 2);
        }
        Check.due("a long way", y.steps(0, 32), 4 + 14);
    }

    private static void stepsRefused() {
        LockedCarts x = new LockedCarts();
        Check.due("steps(-1, 0)", x.steps(-1, 0), INVALID);
        Check.due("steps(64, 0)", x.steps(64, 0), INVALID);
        Check.due("steps(0, -1)", x.steps(0, -1), INVALID);
        Check.due("steps(0, 64)", x.steps(0, 64), INVALID);
        Check.due("steps(-1, -1)", x.steps(-1, -1), INVALID);
    }
}
