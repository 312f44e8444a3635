/** Edges of the section 'A step', on which the promise 8 rests. */
final class StepEdges {
    private static final int NOT_FOUND = LockedCarts.NOT_FOUND;
    private static final int[] AHEAD = {19, 28, 35, 26};
    private static final int[] TWO_AHEAD = {11, 29, 43, 25};

    private StepEdges() {
    }

    static void all() {
        walls();
        border();
        rows();
        stoppedRows();
        pits();
        pitsAndRows();
    }

    private static void at(LockedCarts x, String when, int... cells) {
        for (int n = 0; n < cells.length; n++) {
            Edge.due("cell of " + n + " " + when, x.cartOf(n, 0), cells[n]);
        }
    }

    private static void walls() {
        Edge.of(8, "A step", "if there is a wall on that side of its cell, it is stopped.");
        for (int direction = 0; direction < 4; direction++) {
            for (int side = 0; side < 4; side++) {
                LockedCarts x = Races.moving(27, direction, 0);
                x.wall(27, side);
                x.phase();
                boolean stopped = side == direction;
                at(x, "in " + direction + " with a wall at " + side, stopped ? 27 : AHEAD[direction]);
                Edge.due("how often it was stopped", x.cartOf(0, 8), stopped ? 1 : 0);
            }
            LockedCarts x = Races.moving(27, direction, 0);
            x.wall(AHEAD[direction], (direction + 2) % 4);
            x.phase();
            at(x, "with a wall that was set from the next cell", 27);
            LockedCarts y = Races.moving(27, direction, 1);
            y.wall(AHEAD[direction], direction);
            y.phase();
            at(y, "with a wall behind the next cell", AHEAD[direction]);
            Edge.due("stopped by its second step", y.cartOf(0, 8), 1);
        }
    }

    private static void border() {
        Edge.of(8, "A step", "If it would leave the board, it is out.");
        int[] last = {0, 7, 63, 56};
        for (int direction = 0; direction < 4; direction++) {
            LockedCarts x = Races.moving(last[direction], direction, 0);
            Edge.due("phase() over the border " + direction, x.phase(), 1);
            at(x, "behind the border", NOT_FOUND);
            Edge.due("stopped by the border", x.cartOf(0, 8), 0);
            LockedCarts y = Races.moving(last[direction], direction, 0);
            y.wall(last[direction], direction);
            Edge.due("phase() at a wall of the border " + direction, y.phase(), 0);
            at(y, "at a wall of the border", last[direction]);
            LockedCarts z = Races.moving(last[direction], (direction + 2) % 4, 3);
            Edge.due("phase() back over the border " + direction, z.phase(), 1);
        }
    }

    private static void rows() {
        Edge.of(8, "A step", "If another cart is on the next cell, "
            + "that steps in the same direction first (and so on); ");
        for (int direction = 0; direction < 4; direction++) {
            LockedCarts x = Races.moving(27, direction, 0);
            x.cart(AHEAD[direction], (direction + 1) % 4);
            x.phase();
            at(x, "in " + direction, AHEAD[direction], TWO_AHEAD[direction]);
            Edge.due("pushes", x.count(9), 1);
            Edge.due("direction of the pushed one", x.cartOf(1, 1), (direction + 1) % 4);
        }
        LockedCarts gap = Races.of(24, 1, 26, 0);
        gap.card(0, 0, 0, 1);
        gap.card(0, 1, 0, 1);
        gap.phase();
        at(gap, "with a gap", 25, 26);
        Edge.due("pushes with a gap", gap.count(9), 0);
        gap.phase();
        at(gap, "without a gap", 26, 27);
        Edge.due("pushes without a gap", gap.count(9), 1);
        LockedCarts four = Races.of(24, 1, 26, 0, 25, 0, 27, 0);
        four.card(0, 0, 0, 1);
        four.phase();
        at(four, "in a row of four", 25, 27, 26, 28);
        Edge.due("pushes in a row of four", four.count(9), 3);
    }

    private static void stoppedRows() {
        Edge.of(8, "A step", "if that is stopped, it is stopped, too.");
        for (int wall = 23; wall <= 28; wall++) {
            LockedCarts x = Races.of(24, 1, 25, 0, 26, 0, 27, 0);
            x.wall(wall, 1);
            x.card(0, 0, 0, 1);
            x.phase();
            boolean stopped = wall >= 24 && wall <= 27;
            int by = stopped ? 0 : 1;
            at(x, "with a wall behind " + wall, 24 + by, 25 + by, 26 + by, 27 + by);
            Edge.due("stopped", x.cartOf(0, 8), stopped ? 1 : 0);
            Edge.due("pushes", x.count(9), stopped ? 0 : 3);
        }
        LockedCarts x = Races.of(28, 1, 29, 0, 30, 0, 31, 0);
        x.card(0, 0, 0, 1);
        Edge.due("phase() of a row at the border", x.phase(), 1);
        at(x, "in a row at the border", 29, 30, 31, NOT_FOUND);
        LockedCarts y = Races.of(28, 1, 29, 0, 30, 0, 31, 0);
        y.wall(31, 1);
        y.card(0, 0, 0, 1);
        Edge.due("phase() of a row at a wall of the border", y.phase(), 0);
        at(y, "in a row at a wall of the border", 28, 29, 30, 31);
    }

    private static void pits() {
        Edge.of(8, "A step", "Otherwise it is on the next cell; if that is a pit, it is out.");
        for (int pit : new int[] {24, 26, 27, 28, 29}) {
            LockedCarts x = Races.moving(25, 1, 2);
            x.kind(pit, 7);
            boolean out = pit >= 26 && pit <= 28;
            Edge.due("phase() of three steps from 25 with a pit on " + pit, x.phase(), out ? 1 : 0);
            at(x, "with a pit on " + pit, out ? NOT_FOUND : 28);
        }
        for (int kind = 6; kind <= 8; kind++) {
            LockedCarts x = Races.moving(25, 1, 0);
            x.kind(26, kind);
            x.phase();
            at(x, "upon the kind " + kind, kind == 7 ? NOT_FOUND : 26);
        }
        LockedCarts x = Races.moving(25, 1, 0);
        x.kind(26, 7);
        x.wall(25, 1);
        Edge.due("phase() with a wall ahead of a pit", x.phase(), 0);
        at(x, "with a wall ahead of a pit", 25);
    }

    private static void pitsAndRows() {
        Edge.of(8, "A step", "if that is stopped, it is stopped, too. Otherwise it is on the next cell; ");
        for (int pit = 26; pit <= 28; pit++) {
            LockedCarts x = Races.of(24, 1, 25, 0);
            x.kind(pit, 7);
            x.card(0, 0, 1, 1);
            int[] out = {2, 1, 0};
            int[] pusher = {NOT_FOUND, 26, 26};
            int[] pushed = {NOT_FOUND, NOT_FOUND, 27};
            int[] pushes = {1, 2, 2};
            int i = pit - 26;
            Edge.due("phase() that pushes to a pit on " + pit, x.phase(), out[i]);
            at(x, "with a pit on " + pit, pusher[i], pushed[i]);
            Edge.due("pushes", x.count(9), pushes[i]);
            Edge.due("not stopped", x.cartOf(0, 8), 0);
        }
    }
}
