/** Edges of the cards, gears and flags in the section 'A phase', and of the promises 8, 9 and 13. */
final class PhaseEdges {
    private static final int NOT_POSSIBLE = LockedCarts.NOT_POSSIBLE;
    private static final int NOT_FOUND = LockedCarts.NOT_FOUND;

    private PhaseEdges() {
    }

    static void all() {
        phasesOfARound();
        cardsOfThisRegister();
        greatestRankFirst();
        lowestCartOfEqualRanks();
        cartsThatAreNotOut();
        emptyRegisters();
        stepByStep();
        damageOfStops();
        gears();
        nextFlags();
        oneFlagInAPhase();
        phase();
        round();
        turn();
    }

    private static void phasesOfARound() {
        Edge.of(8, "A phase", "A round has the phases 0 to 4.");
        LockedCarts x = Races.of(27, 1);
        int[] next = {0, 1, 2, 3, 4, 0, 1, 2, 3, 4, 0};
        int[] rounds = {0, 0, 0, 0, 0, 1, 1, 1, 1, 1, 2};
        for (int phases = 0; phases < next.length; phases++) {
            Edge.due("the next phase behind " + phases, x.count(1), next[phases]);
            Edge.due("rounds behind " + phases, x.count(2), rounds[phases]);
            x.phase();
        }
    }

    private static void cardsOfThisRegister() {
        Edge.of(8, "A phase", "In a phase the cards of this register of all carts that are not out "
            + "come one after the other, by ranks, the greatest first, of several that of the lowest cart; ");
        for (int register = 0; register < 5; register++) {
            LockedCarts x = Races.of(27, 1);
            x.card(0, register, 6, 1);
            for (int phase = 0; phase < 5; phase++) {
                Edge.due("direction ahead of " + phase, x.cartOf(0, 1), phase <= register ? 1 : 3);
                x.phase();
            }
            Edge.due("direction behind the round", x.cartOf(0, 1), 3);
        }
    }

    /** The cart 0 goes to the right, the cart 1 comes down upon the cell ahead of it. */
    private static LockedCarts crossing(int rank, int otherRank) {
        LockedCarts x = Races.of(27, 1, 20, 2);
        x.card(0, 0, 0, rank);
        x.card(1, 0, 0, otherRank);
        return x;
    }

    private static void crossed(int rank, int otherRank, boolean first) {
        String ranks = "ranks " + rank + " and " + otherRank;
        LockedCarts x = crossing(rank, otherRank);
        Edge.due("whose card is first with " + ranks, x.turn(0), first ? 0 : 1);
        Edge.due("whose card is second with " + ranks, x.turn(1), first ? 1 : 0);
        x.phase();
        Edge.due("cell of 0 with " + ranks, x.cartOf(0, 0), first ? 36 : 28);
        Edge.due("cell of 1 with " + ranks, x.cartOf(1, 0), first ? 28 : 29);
    }

    private static void greatestRankFirst() {
        Edge.of(13, "A phase", "by ranks, the greatest first, ");
        crossed(1, 2, false);
        crossed(2, 1, true);
        crossed(998, 999, false);
        crossed(999, 998, true);
        crossed(1, 999, false);
        crossed(999, 1, true);
    }

    private static void lowestCartOfEqualRanks() {
        Edge.of(13, "A phase", "of several that of the lowest cart; ");
        crossed(1, 1, true);
        crossed(999, 999, true);
        LockedCarts x = Races.of(0, 2, 8, 2, 16, 2, 24, 2);
        int[] ranks = {5, 6, 5, 6};
        for (int n = 0; n < 4; n++) {
            x.card(n, 0, 4, ranks[n]);
        }
        int[] due = {1, 3, 0, 2, NOT_FOUND};
        for (int place = 0; place < due.length; place++) {
            Edge.due("turn(" + place + ")", x.turn(place), due[place]);
        }
    }

    private static void cartsThatAreNotOut() {
        Edge.of(8, "A phase", "the cards of this register of all carts that are not out ");
        LockedCarts x = Races.of(0, 0, 27, 1);
        for (int register = 0; register < 2; register++) {
            x.card(0, register, 0, 9);
            x.card(1, register, 0, 1);
        }
        Edge.due("its turn ahead of going out", x.turn(0), 0);
        Edge.due("phase()", x.phase(), 1);
        Edge.due("no turn of one that is out", x.turn(0), 1);
        Edge.due("phase() of one that is out", x.phase(), 0);
        Edge.due("how often it was out", x.cartOf(0, 7), 1);
        // Pushed out ahead of its card, or behind it.
        for (int rank = 1; rank <= 2; rank++) {
            LockedCarts y = Races.of(1, 3, 0, 0);
            y.card(0, 0, 0, rank);
            y.card(1, 0, 5, 3 - rank);
            Edge.due("phase() with the rank " + rank, y.phase(), 1);
            Edge.due("the pushed one", y.cartOf(1, 0), NOT_FOUND);
            Edge.due("the pusher", y.cartOf(0, 0), 0);
        }
    }

    private static void emptyRegisters() {
        Edge.of(8, "A phase", "empty registers do nothing.");
        LockedCarts x = Races.of(27, 1);
        x.card(0, 1, 0, 1);
        x.phase();
        Edge.due("behind an empty register", x.cartOf(0, 0), 27);
        x.phase();
        Edge.due("behind a card", x.cartOf(0, 0), 28);
        x.phase();
        Edge.due("behind the next empty one", x.cartOf(0, 0), 28);
        // A locked register with a card is no empty one.
        LockedCarts y = Races.of(27, 1);
        y.card(0, 0, 0, 1);
        y.damage(0, 9);
        y.phase();
        Edge.due("behind a locked register", y.cartOf(0, 0), 28);
        y.phase();
        Edge.due("behind an empty locked one", y.cartOf(0, 0), 28);
    }

    private static void stepByStep() {
        Edge.of(8, "A phase", "A move of steps is done step by step, until the cart is stopped or out; ");
        for (int move = 0; move <= 2; move++) {
            for (int free = 0; free <= 3; free++) {
                LockedCarts x = Races.moving(24, 1, move);
                x.wall(24 + free, 1);
                x.phase();
                String what = "the move " + move + " with a wall behind " + free + " cells";
                Edge.due("cell behind " + what, x.cartOf(0, 0), 24 + Math.min(free, move + 1));
                Edge.due("damage by " + what, x.cartOf(0, 2), free <= move ? 1 : 0);
                LockedCarts y = Races.moving(31 - free, 1, move);
                Edge.due("phase() of the move " + move + " with a border behind " + free, y.phase(),
                    free <= move ? 1 : 0);
                Edge.due("its cell", y.cartOf(0, 0), free <= move ? NOT_FOUND : 32 + move - free);
                Edge.due("its damage", y.cartOf(0, 2), 0);
            }
        }
    }

    private static void damageOfStops() {
        Edge.of(8, "A phase", "if it is stopped, the damage of the cart whose move it is (of no other one) "
            + "becomes 1 more (9 at most).");
        for (int damage = 0; damage <= 9; damage++) {
            LockedCarts x = Races.of(27, 1, 28, 1);
            x.wall(28, 1);
            x.card(0, 0, 2, 1);
            x.damage(0, damage);
            x.phase();
            Edge.due("damage of the one that moves, behind " + damage, x.cartOf(0, 2), Math.min(9, damage + 1));
            Edge.due("damage of the other one", x.cartOf(1, 2), 0);
            Edge.due("how often it was stopped", x.cartOf(0, 8), 1);
            Edge.due("how often the other one was", x.cartOf(1, 8), 0);
        }
        LockedCarts x = Races.moving(27, 1, 3);
        x.wall(27, 3);
        x.phase();
        Edge.due("damage by a step back", x.cartOf(0, 2), 1);
        LockedCarts y = Races.moving(27, 1, 6);
        for (int side = 0; side < 4; side++) {
            y.wall(27, side);
        }
        y.phase();
        Edge.due("damage by a turn", y.cartOf(0, 2), 0);
    }

    private static void gears() {
        Edge.of(8, "A phase", "Then each cart on a gear is turned by it.");
        LockedCarts x = Races.of(27, 0, 28, 3);
        x.kind(27, 5);
        x.kind(28, 6);
        int[] left = {3, 2, 1, 0, 3};
        int[] right = {0, 1, 2, 3, 0};
        for (int phase = 0; phase < 5; phase++) {
            x.phase();
            Edge.due("left behind " + phase, x.cartOf(0, 1), left[phase]);
            Edge.due("right behind " + phase, x.cartOf(1, 1), right[phase]);
        }
        // A gear that a belt leads to turns; one that a card leads away from does not.
        LockedCarts y = Races.of(27, 1, 44, 1);
        y.kind(27, 2);
        y.kind(28, 5);
        y.kind(44, 5);
        y.card(1, 0, 0, 1);
        y.phase();
        Edge.due("carried upon a gear", y.cartOf(0, 1), 0);
        Edge.due("stepped off a gear", y.cartOf(1, 1), 1);
        y.phase();
        Edge.due("turned once more", y.cartOf(0, 1), 3);
    }

    private static void nextFlags() {
        Edge.of(8, "A phase", "Then each cart on the cell of its next flag "
            + "(the one whose number is how many it has touched) has touched it (one flag in a phase).");
        for (int flags = 0; flags <= 4; flags++) {
            for (int there = 0; there < 4; there++) {
                LockedCarts x = Races.of(27, 1);
                for (int flag = 0; flag < flags; flag++) {
                    x.flag(flag, flag == there ? 27 : 63);
                }
                x.phase();
                int due = there == 0 && flags > 0 ? 1 : 0;
                Edge.due("touched behind a phase on the flag " + there + " of " + flags, x.cartOf(0, 3), due);
            }
        }
        LockedCarts x = Races.of(27, 1, 28, 1);
        x.flag(0, 28);
        x.flag(1, 29);
        x.card(0, 0, 0, 1);
        x.phase();
        Edge.due("touched by one that pushed the other one off", x.cartOf(0, 3), 1);
        Edge.due("touched by the one on a later flag", x.cartOf(1, 3), 0);
        // Where it is behind the belts counts: carried upon the flag, or off it, or out.
        for (int flag = 27; flag <= 29; flag++) {
            LockedCarts y = Races.of(27, 1);
            y.kind(27, 2);
            y.flag(0, flag);
            y.phase();
            Edge.due("touched on " + flag + " by one carried to 28", y.cartOf(0, 3), flag == 28 ? 1 : 0);
        }
        LockedCarts out = Races.of(26, 1);
        out.kind(26, 2);
        out.kind(27, 7);
        out.flag(0, 27);
        out.phase();
        Edge.due("touched by one that is carried out", out.cartOf(0, 3), 0);
    }

    private static void oneFlagInAPhase() {
        Edge.of(8, "A phase", "(one flag in a phase).");
        for (int flags = 1; flags <= 4; flags++) {
            LockedCarts x = Races.of(27, 1);
            for (int flag = 0; flag < flags; flag++) {
                x.flag(flag, 27);
            }
            for (int phases = 1; phases <= 5; phases++) {
                x.phase();
                Edge.due("touched of " + flags + " behind " + phases, x.cartOf(0, 3), Math.min(phases, flags));
            }
        }
    }

    private static void phase() {
        Edge.of(8, "`int phase()`: Does the next phase; behind the phase 4 the round ends.");
        LockedCarts x = Races.of(27, 1);
        x.card(0, 0, 0, 1);
        x.damage(0, 1);
        x.kind(28, 8);
        Races.phases(x, 4);
        Edge.due("damage behind the phase 3", x.cartOf(0, 2), 1);
        Edge.due("cards behind the phase 3", x.cartOf(0, 6), 1);
        x.phase();
        Edge.due("damage behind the phase 4", x.cartOf(0, 2), 0);
        Edge.due("cards behind the phase 4", x.cartOf(0, 6), 0);
        Edge.of(8, "Returns how many carts went out in it; ");
        for (int out = 0; out <= 4; out++) {
            LockedCarts y = Races.of(0, 0, 1, 0, 2, 0, 3, 0);
            for (int n = 0; n < out; n++) {
                y.card(n, 0, 0, 1);
            }
            Edge.due("phase() of " + out, y.phase(), out);
            Edge.due("the next phase()", y.phase(), 0);
        }
        LockedCarts last = Races.moving(0, 0, 0);
        Races.phases(last, 5);
        last.card(0, 4, 0, 1);
        Races.phases(last, 4);
        Edge.due("the phase 4 of one that comes back at once", last.phase(), 1);
        Edge.of(8, "NOT_POSSIBLE if there is no cart.");
        Edge.refused(LockedCarts::new, "phase()", LockedCarts::phase, NOT_POSSIBLE);
        Edge.due("phase() with a cart", Races.of(27, 1).phase(), 0);
        Edge.due("phase() with one that is out", Races.behind(Races.moving(0, 0, 0), 1).phase(), 0);
    }

    private static void round() {
        Edge.of(9, "`int round()`: Does all phases up to the end of the round.");
        for (int done = 0; done <= 5; done++) {
            LockedCarts x = Races.behind(Races.of(27, 1), done);
            Edge.due("round() behind " + done, x.round(), 0);
            Edge.due("phases then", x.count(6), done == 5 ? 10 : 5);
            Edge.due("rounds then", x.count(2), done == 5 ? 2 : 1);
            Edge.due("the next phase then", x.count(1), 0);
        }
        Edge.of(9, "Returns how many carts went out in them; ");
        for (int out = 0; out <= 4; out++) {
            LockedCarts x = Races.of(0, 0, 1, 0, 2, 0, 3, 0);
            for (int n = 0; n < out; n++) {
                x.card(n, n + 1, 0, 1);
            }
            Edge.due("round() of " + out, x.round(), out);
            Edge.due("the next round()", x.round(), 0);
        }
        LockedCarts x = Races.of(0, 0, 1, 0);
        x.card(0, 0, 0, 1);
        x.card(1, 1, 0, 1);
        x.phase();
        Edge.due("round() behind one that went out", x.round(), 1);
        Edge.of(9, "NOT_POSSIBLE if there is no cart.");
        Edge.refused(LockedCarts::new, "round()", LockedCarts::round, NOT_POSSIBLE);
        Edge.due("round() with a cart", Races.of(27, 1).round(), 0);
    }

    private static LockedCarts withCards(int howMany) {
        LockedCarts x = Races.of(0, 2, 9, 2, 18, 2, 27, 2);
        for (int n = 0; n < howMany; n++) {
            x.card(n, 0, 6, 10 + n);
        }
        return x;
    }

    private static void turn() {
        Edge.of(13, "- `place`: 0 for the first one, and so on");
        for (int howMany = 0; howMany <= 4; howMany++) {
            for (int place = 0; place <= 4; place++) {
                int due = place < howMany ? howMany - 1 - place : NOT_FOUND;
                Edge.due("turn(" + place + ") of " + howMany, withCards(howMany).turn(place), due);
            }
        }
        Edge.of(13, "INVALID_ARGUMENT if place is below 0; ");
        for (int place : new int[] {-1, Integer.MIN_VALUE}) {
            Edge.refused(() -> withCards(4), "turn(" + place + ")", x -> x.turn(place), LockedCarts.INVALID_ARGUMENT);
            Edge.due("turn(" + place + ") without carts", new LockedCarts().turn(place), LockedCarts.INVALID_ARGUMENT);
        }
        Edge.due("turn(0)", withCards(4).turn(0), 3);
        Edge.of(13, "NOT_FOUND if there are not so many.");
        Edge.due("turn(3) of 4", withCards(4).turn(3), 0);
        Edge.due("turn(4) of 4", withCards(4).turn(4), NOT_FOUND);
        Edge.due("turn(2147483647)", withCards(4).turn(Integer.MAX_VALUE), NOT_FOUND);
        Edge.due("turn(0) without carts", new LockedCarts().turn(0), NOT_FOUND);
        Edge.of(13, "`int turn(int place)`: Tells whose card comes when in the next phase.");
        LockedCarts x = Races.of(27, 1, 9, 1);
        x.card(0, 0, 6, 5);
        x.card(1, 4, 6, 5);
        int[] due = {0, NOT_FOUND, NOT_FOUND, NOT_FOUND, 1, NOT_FOUND};
        for (int phases = 0; phases < due.length; phases++) {
            Edge.due("turn(0) behind " + phases, x.turn(0), due[phases]);
            x.phase();
        }
    }
}
