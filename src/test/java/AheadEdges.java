import java.util.function.Supplier;

/** Edges of the promises 14 to 16: would, best, steps. */
final class AheadEdges {
    private static final int NOT_POSSIBLE = LockedCarts.NOT_POSSIBLE;
    private static final int NOT_FOUND = LockedCarts.NOT_FOUND;
    private static final Supplier<LockedCarts> TWO = () -> {
        LockedCarts x = Races.of(27, 1, 9, 0);
        x.flag(0, 63);
        return x;
    };

    private AheadEdges() {
    }

    static void all() {
        would();
        wouldPhases();
        wouldOut();
        best();
        bestNearest();
        bestOfSeveral();
        bestOut();
        bestRanks();
        bestNotPossible();
        bestLocked();
        bestNotFound();
        steps();
        stepsPits();
        stepsWalls();
    }

    private static void would() {
        Edge.range(14, "- `cart`: number of the cart", 0, 1, TWO, (x, n) -> x.would(n, 1, 0));
        Edge.range(14, "- `phases`: 0 to 20", 0, 20, TWO, (x, n) -> x.would(0, n, 0));
        Edge.range(14, "- `what`: 0: its cell; 1: its direction; 2: its damage; 3: flags that it has touched", 0, 3,
            TWO, (x, n) -> x.would(0, 1, n));
        int[][] due = {{27, 1, 3, 0}, {28, 1, 3, 1}, {28, 1, 4, 2}, {28, 2, 4, 2}, {28, 2, 4, 2}, {28, 2, 4, 2}};
        for (int phases = 0; phases < due.length; phases++) {
            for (int what = 0; what < 4; what++) {
                LockedCarts x = Races.moving(27, 1, 0);
                x.damage(0, 3);
                x.flag(0, 28);
                x.flag(1, 28);
                x.wall(28, 1);
                x.card(0, 1, 2, 1);
                x.card(0, 2, 5, 1);
                Edge.due("would(0, " + phases + ", " + what + ")", x.would(0, phases, what), due[phases][what]);
            }
        }
    }

    private static void wouldPhases() {
        Edge.of(14, "`int would(int cart, int phases, int what)`: "
            + "Tells where a cart would be behind some phases, if nothing else is done.");
        // A belt around the border's corner: each phase is a cell further.
        LockedCarts x = new LockedCarts();
        for (int cell = 0; cell < 7; cell++) {
            x.kind(cell, 2);
            x.kind(63 - cell, 4);
            x.kind(7 + 8 * cell, 3);
            x.kind(56 - 8 * cell, 1);
        }
        x.cart(0, 1);
        int[] cells = new int[28];
        for (int i = 0; i < 7; i++) {
            cells[i] = i;
            cells[7 + i] = 7 + 8 * i;
            cells[14 + i] = 63 - i;
            cells[21 + i] = 56 - 8 * i;
        }
        for (int phases = 0; phases <= 20; phases++) {
            Edge.due("behind " + phases, x.would(0, phases, 0), cells[phases]);
        }
        x.phase();
        Edge.due("behind 20 from there on", x.would(0, 20, 0), cells[21]);
        Edge.due("behind none from there on", x.would(0, 0, 0), cells[1]);
        Edge.due("where it is all the same", x.cartOf(0, 0), cells[1]);
    }

    private static void wouldOut() {
        Edge.of(14, "NOT_FOUND for 0 and 1 if it would be out.");
        for (int phases = 0; phases <= 5; phases++) {
            LockedCarts x = Races.of(0, 0);
            x.card(0, 1, 0, 1);
            boolean out = phases >= 2 && phases <= 4;
            Edge.due("cell behind " + phases, x.would(0, phases, 0), out ? NOT_FOUND : 0);
            Edge.due("direction behind " + phases, x.would(0, phases, 1), out ? NOT_FOUND : 0);
            Edge.due("damage behind " + phases, x.would(0, phases, 2), phases == 5 ? 2 : 0);
            Edge.due("flags behind " + phases, x.would(0, phases, 3), 0);
        }
        Edge.due("the cell of one that is out", Races.withOneOut().would(0, 0, 0), NOT_FOUND);
        Edge.due("the cell ahead of the round's end", Races.withOneOut().would(0, 3, 0), NOT_FOUND);
        Edge.due("the cell behind the round's end", Races.withOneOut().would(0, 4, 0), 0);
    }

    private static void best() {
        Edge.range(15, "- `cart`: number of the cart", 0, 1, TWO, (x, n) -> x.best(n, 1, 0));
        Edge.range(15, "- `rank`: 1 to 999", 1, 999, TWO, (x, n) -> x.best(0, n, 0));
        Edge.range(15, "- `what`: 0: the move; 1: how far it is then", 0, 1, TWO, (x, n) -> x.best(0, 1, n));
        Edge.of(15, "`int best(int cart, int rank, int what)`: Finds the best move for the card of a cart "
            + "in the next phase, with a rank, in place of the card that is there: ");
        for (int phases = 0; phases <= 5; phases++) {
            LockedCarts x = Races.behind(TWO.get(), phases);
            Edge.due("the best move behind " + phases, x.best(0, 1, 0), 2);
            Edge.due("how far it is then", x.best(0, 1, 1), 5);
            x.card(0, phases % 5, 6, 9);
            Edge.due("in place of a card behind " + phases, x.best(0, 1, 0), 2);
        }
    }

    private static LockedCarts towards(int cell, int direction, int flag) {
        LockedCarts x = Races.of(cell, direction);
        x.flag(0, flag);
        return x;
    }

    private static void bestIs(String when, LockedCarts x, int move, int far) {
        Edge.due("the best move " + when, x.best(0, 1, 0), move);
        Edge.due("how far " + when, x.best(0, 1, 1), far);
    }

    private static void bestNearest() {
        Edge.of(15, "the one behind which (behind the whole phase, and the end of the round, if it is the phase 4) "
            + "it is not out and nearest to the flag that is its next one now "
            + "(the difference of columns plus that of rows, without signs), of several the lowest.");
        int[] moves = {3, 4, 0, 1, 2, 2};
        for (int flag = 26; flag <= 31; flag++) {
            bestIs("to " + flag, towards(27, 1, flag), moves[flag - 26], flag == 31 ? 1 : 0);
        }
        bestIs("to one corner", towards(27, 1, 0), 3, 5);
        bestIs("to another corner", towards(27, 1, 7), 2, 4);
        bestIs("to a third corner", towards(27, 1, 56), 3, 6);
        bestIs("to the last corner", towards(27, 1, 63), 2, 5);
        // The next flag now, though the phase touches it; not the one behind it.
        for (int touched = 0; touched <= 1; touched++) {
            LockedCarts x = towards(27, 1, 27 + 1 - touched);
            x.flag(1, 26);
            Races.phases(x, touched);
            bestIs("to the flag " + touched, x, touched == 0 ? 0 : 3, 0);
        }
        // Belts, and the end of the round.
        LockedCarts belt = towards(27, 1, 37);
        belt.kind(29, 3);
        bestIs("by a belt", belt, 1, 0);
        LockedCarts end = towards(0, 0, 9);
        end.card(0, 4, 3, 1);
        bestIs("ahead of a card of another phase", end, 3, 1);
    }

    private static void bestOfSeveral() {
        Edge.of(15, "of several the lowest.");
        bestIs("of the turns", towards(27, 1, 27), 4, 0);
        for (int free = 0; free <= 2; free++) {
            LockedCarts x = towards(27, 1, 31);
            x.wall(27 + free, 1);
            int[] move = {0, 0, 1};
            bestIs("with a wall behind " + free, x, move[free], 4 - free);
        }
        LockedCarts back = towards(27, 1, 31);
        back.wall(27, 1);
        back.kind(27, 2);
        bestIs("of all but the step back", back, 0, 4);
    }

    private static void bestOut() {
        Edge.of(15, "If it was out in the phase, it counts as out, also if it comes back.");
        // One step to the right of the flag and its start; a step over the border would bring it back upon it.
        for (int phases = 3; phases <= 4; phases++) {
            LockedCarts x = Races.of(1, 0);
            x.card(0, 0, 5, 1);
            x.card(0, 1, 0, 1);
            x.card(0, 2, 4, 1);
            Races.phases(x, phases);
            x.flag(0, 1);
            bestIs("beside its start behind " + phases, x, 4, 1);
        }
        LockedCarts x = towards(0, 0, 0);
        x.flag(0, 8);
        bestIs("with one step to the flag", x, 3, 0);
        x.kind(8, 7);
        bestIs("with a pit on the flag", x, 4, 1);
        // A pushed cart may go out; the one that pushes is best where it is then.
        LockedCarts pusher = Races.of(1, 3, 0, 0);
        pusher.flag(0, 0);
        bestIs("that pushes another one out", pusher, 0, 0);
    }

    private static void bestRanks() {
        Edge.of(15, "with a rank, in place of the card that is there: ");
        for (int rank = 499; rank <= 501; rank++) {
            for (int chooser = 0; chooser <= 1; chooser++) {
                LockedCarts x = chooser == 0 ? Races.of(24, 1, 34, 0) : Races.of(34, 0, 24, 1);
                x.flag(0, 26);
                x.card(1 - chooser, 0, 0, 500);
                // First it would be pushed up from the flag by the other one.
                boolean first = rank > 500 || rank == 500 && chooser == 0;
                Edge.due("the move of " + chooser + " with " + rank, x.best(chooser, rank, 0), first ? 0 : 1);
                Edge.due("how far " + chooser + " with " + rank, x.best(chooser, rank, 1), first ? 1 : 0);
            }
        }
    }

    private static void bestNotPossible() {
        Edge.of(15, "NOT_POSSIBLE if it is out, its register of the next phase is locked, or it has no next flag; ");
        Supplier<LockedCarts> out = () -> {
            LockedCarts x = Races.withOneOut();
            x.flag(0, 63);
            return x;
        };
        Edge.refused(out, "if it is out", x -> x.best(0, 1, 0), NOT_POSSIBLE);
        Edge.due("of the other one", out.get().best(1, 1, 0), 2);
        Edge.due("if it came back", Races.behind(out.get(), 4).best(0, 1, 0), 3);
        Edge.refused(() -> Races.of(27, 1), "without a flag", x -> x.best(0, 1, 0), NOT_POSSIBLE);
        for (int flags = 1; flags <= 4; flags++) {
            int all = flags;
            Supplier<LockedCarts> race = () -> {
                LockedCarts x = Races.of(27, 1);
                for (int flag = 0; flag < all; flag++) {
                    x.flag(flag, 27);
                }
                return x;
            };
            Edge.due("with one of " + flags + " left", Races.behind(race.get(), flags - 1).best(0, 1, 0), 4);
            Edge.refused(() -> Races.behind(race.get(), all), "with none of " + flags + " left",
                x -> x.best(0, 1, 0), NOT_POSSIBLE);
        }
    }

    private static void bestLocked() {
        Edge.of(15, "its register of the next phase is locked, ");
        for (int phase = 0; phase <= 4; phase++) {
            for (int damage = 4; damage <= 9; damage++) {
                LockedCarts x = TWO.get();
                x.damage(0, damage);
                Races.phases(x, phase);
                boolean locked = phase >= 9 - damage;
                Edge.due("in the phase " + phase + " with " + damage, x.best(0, 1, 0), locked ? NOT_POSSIBLE : 2);
            }
        }
    }

    /** On a belt that leads over the border; the step back leads upon the cell 8. */
    private static LockedCarts doomed(int kindBehind, int phases) {
        LockedCarts x = Races.of(0, 0);
        x.flag(0, 63);
        x.kind(8, kindBehind);
        Races.phases(x, phases);
        x.kind(0, 1);
        return x;
    }

    private static void bestNotFound() {
        Edge.of(15, "NOT_FOUND if it would be out by each move.");
        for (int phases = 0; phases <= 4; phases++) {
            for (int what = 0; what <= 1; what++) {
                Edge.due("by each move in the phase " + phases, doomed(7, phases).best(0, 1, what), NOT_FOUND);
            }
            bestIs("by each but one in the phase " + phases, doomed(0, phases), 3, 13);
        }
    }

    private static void steps() {
        Edge.range(16, "- `from`: 0 to 63", 0, 63, LockedCarts::new, (x, n) -> x.steps(n, 0));
        Edge.range(16, "- `to`: 0 to 63", 0, 63, LockedCarts::new, (x, n) -> x.steps(0, n));
        Edge.of(16, "Returns how many steps; ");
        LockedCarts x = Races.of(26, 0, 28, 0, 19, 0, 35, 0);
        for (int cell = 0; cell < 64; cell++) {
            int due = Math.abs(cell % 8 - 3) + Math.abs(cell / 8 - 3);
            Edge.due("from 27 to " + cell, x.steps(27, cell), due);
            Edge.due("from " + cell + " to 27", x.steps(cell, 27), due);
        }
        // One way through all 64 cells, from side to side.
        LockedCarts y = new LockedCarts();
        for (int row = 0; row < 7; row++) {
            for (int column = 0; column < 8; column++) {
                if (column != (row % 2 == 0 ? 7 : 0)) {
                    y.wall(8 * row + column, 2);
                }
            }
        }
        Edge.due("the longest way", y.steps(0, 56), 63);
        Edge.due("the longest way back", y.steps(56, 0), 63);
        Edge.due("a cell less", y.steps(1, 56), 62);
    }

    private static void stepsPits() {
        Edge.of(16, "`int steps(int from, int to)`: Returns how far a cell is from a cell for a cart that steps "
            + "over cells that are no pits (the first one may be one), not through walls, as if there were no carts.");
        for (int kind = 0; kind <= 8; kind++) {
            LockedCarts x = new LockedCarts();
            x.kind(1, kind);
            boolean pit = kind == 7;
            Edge.due("over the kind " + kind, x.steps(0, 2), pit ? 4 : 2);
            Edge.due("to the kind " + kind, x.steps(0, 1), pit ? NOT_FOUND : 1);
            Edge.due("from the kind " + kind, x.steps(1, 0), 1);
            Edge.due("nowhere from the kind " + kind, x.steps(1, 1), 0);
        }
        LockedCarts x = new LockedCarts();
        x.kind(0, 7);
        x.kind(1, 7);
        Edge.due("from a pit to another one", x.steps(0, 1), NOT_FOUND);
        Edge.due("from a pit around another one", x.steps(0, 2), 4);
        x.kind(8, 7);
        Edge.due("from a pit among pits", x.steps(0, 2), NOT_FOUND);
        Edge.due("from a pit among pits to itself", x.steps(0, 0), 0);
    }

    private static void stepsWalls() {
        Edge.of(16, "NOT_FOUND if there is no way.");
        for (int side = 0; side < 4; side++) {
            LockedCarts x = new LockedCarts();
            for (int wall = 0; wall < 4; wall++) {
                if (wall != side) {
                    x.wall(27, wall);
                }
            }
            int[] beyond = {19, 28, 35, 26};
            Edge.due("through the last gap " + side, x.steps(27, beyond[side]), 1);
            Edge.due("back through it", x.steps(beyond[side], 27), 1);
            x.wall(beyond[side], (side + 2) % 4);
            Edge.due("from between walls", x.steps(27, beyond[side]), NOT_FOUND);
            Edge.due("to between walls", x.steps(beyond[side], 27), NOT_FOUND);
            Edge.due("between walls", x.steps(27, 27), 0);
        }
    }
}
