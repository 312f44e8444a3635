/** Edges of a round's end in the section 'A phase', on which the promises 8 and 9 rest. */
final class RoundEdges {
    private static final int NOT_FOUND = LockedCarts.NOT_FOUND;

    private RoundEdges() {
    }

    static void all() {
        behindThePhaseFour();
        repair();
        cardsThatAreGone();
        lockedByTheDamageThen();
        startsAgain();
        startsThatAreTaken();
        startsThatArePits();
        lowestCell();
        noCell();
        oneCellForTwo();
        asTheyComeBack();
        nextPhase();
    }

    private static void behindThePhaseFour() {
        Edge.of(8, "A phase", "Behind the phase 4 the round ends: ");
        LockedCarts x = Races.of(0, 0, 27, 1);
        x.card(0, 0, 0, 1);
        x.card(1, 0, 6, 1);
        x.kind(27, 8);
        x.damage(1, 2);
        for (int phases = 0; phases <= 4; phases++) {
            Edge.due("rounds behind " + phases, x.count(2), 0);
            Edge.due("damage behind " + phases, x.cartOf(1, 2), 2);
            Edge.due("cards behind " + phases, x.cartOf(1, 6), 1);
            Edge.due("carts out behind " + phases, x.count(4), phases == 0 ? 0 : 1);
            x.phase();
        }
        Edge.due("rounds behind 5", x.count(2), 1);
        Edge.due("damage behind 5", x.cartOf(1, 2), 1);
        Edge.due("cards behind 5", x.cartOf(1, 6), 0);
        Edge.due("carts out behind 5", x.count(4), 0);
    }

    private static void repair() {
        Edge.of(8, "A phase", "each cart on a place of repair has 1 less damage; ");
        for (int damage = 0; damage <= 9; damage++) {
            LockedCarts x = Races.of(27, 1, 28, 1);
            x.kind(27, 8);
            x.damage(0, damage);
            x.damage(1, damage);
            x.round();
            Edge.due("damage " + damage + " on a place of repair", x.cartOf(0, 2), Math.max(0, damage - 1));
            Edge.due("damage " + damage + " beside it", x.cartOf(1, 2), damage);
        }
        LockedCarts x = Races.of(26, 1, 35, 1);
        x.kind(27, 8);
        x.kind(35, 8);
        x.damage(0, 3);
        x.damage(1, 3);
        x.card(0, 4, 0, 1);
        x.card(1, 4, 0, 1);
        x.round();
        Edge.due("damage of one that came in the phase 4", x.cartOf(0, 2), 2);
        Edge.due("damage of one that left in the phase 4", x.cartOf(1, 2), 3);
        // The order: repair, cards, then those that come back, which are not repaired on their starts.
        LockedCarts y = Races.moving(0, 0, 0);
        y.kind(0, 8);
        y.round();
        Edge.due("damage of one that comes back upon a place of repair", y.cartOf(0, 2), 2);
    }

    private static LockedCarts full(int damage) {
        LockedCarts x = Races.of(27, 1);
        for (int register = 0; register < 5; register++) {
            x.card(0, register, 6, 10 + register);
        }
        x.damage(0, damage);
        return x;
    }

    private static void cardsThatAreGone() {
        Edge.of(8, "A phase", "the cards of registers that are not locked (by the damage as it is then) are gone; ");
        int[] left = {0, 0, 0, 0, 0, 16, 24, 28, 30, 31};
        for (int damage = 0; damage <= 9; damage++) {
            LockedCarts x = full(damage);
            x.round();
            Edge.due("registers with cards with the damage " + damage, x.cartOf(0, 6), left[damage]);
            for (int register = 0; register < 5; register++) {
                boolean stays = (left[damage] >> register & 1) == 1;
                Edge.due("the rank in " + register, x.cardOf(0, register, 1), stays ? 10 + register : NOT_FOUND);
                Edge.due("the move in " + register, x.cardOf(0, register, 0), stays ? 6 : NOT_FOUND);
            }
        }
        LockedCarts x = full(5);
        x.round();
        x.damage(0, -1);
        Edge.due("direction ahead of the second round", x.cartOf(0, 1), 3);
        x.round();
        Edge.due("direction behind the card that was left", x.cartOf(0, 1), 1);
        Edge.due("registers with cards then", x.cartOf(0, 6), 0);
    }

    private static void lockedByTheDamageThen() {
        Edge.of(8, "A phase", "(by the damage as it is then)");
        int[] left = {0, 16, 24, 28, 30};
        for (int damage = 5; damage <= 9; damage++) {
            LockedCarts x = full(damage);
            x.kind(27, 8);
            x.round();
            Edge.due("cards with a repair of " + damage, x.cartOf(0, 6), left[damage - 5]);
        }
        for (int damage = 3; damage <= 4; damage++) {
            LockedCarts x = Races.of(27, 1);
            x.wall(27, 1);
            x.card(0, 4, 0, 7);
            x.damage(0, damage);
            x.round();
            Edge.due("cards with a stop in the phase 4 behind " + damage, x.cartOf(0, 6), damage == 4 ? 16 : 0);
        }
    }

    private static void startsAgain() {
        Edge.of(8, "A phase", "then carts that are out come back, the lowest first, on their starts, ");
        LockedCarts x = Races.of(63, 2, 0, 0, 27, 1);
        x.card(0, 0, 0, 1);
        x.card(1, 0, 0, 1);
        x.card(2, 0, 0, 1);
        x.round();
        int[] cells = {63, 0, 28};
        for (int n = 0; n < 3; n++) {
            Edge.due("cell of " + n, x.cartOf(n, 0), cells[n]);
        }
    }

    private static void startsThatAreTaken() {
        Edge.of(8, "A phase", "or, if another cart is there, ");
        // Out over the upper border, while another cart steps upon the start of the first one, or stays beside it.
        for (int steps = 0; steps <= 1; steps++) {
            LockedCarts x = Races.of(2, 0, 1, 1);
            x.card(0, 0, 0, 1);
            if (steps == 1) {
                x.card(1, 1, 0, 1);
            }
            x.round();
            Edge.due("its cell", x.cartOf(0, 0), steps == 1 ? 0 : 2);
            Edge.due("the other one's", x.cartOf(1, 0), 1 + steps);
            Edge.due("its start", x.cartOf(0, 4), 2);
        }
        // The lowest one comes first and may take the start of a higher one.
        LockedCarts y = Races.of(3, 0, 0, 0, 2, 1);
        y.card(0, 0, 0, 1);
        y.card(1, 0, 0, 1);
        y.card(2, 1, 0, 1);
        y.round();
        int[] cells = {0, 1, 3};
        for (int n = 0; n < 3; n++) {
            Edge.due("cell of " + n, y.cartOf(n, 0), cells[n]);
        }
    }

    private static void startsThatArePits() {
        Edge.of(8, "A phase", "or it is a pit, ");
        for (int kind = 6; kind <= 8; kind++) {
            LockedCarts x = Races.moving(2, 0, 0);
            x.phase();
            x.kind(2, kind);
            x.round();
            Edge.due("its cell with the kind " + kind, x.cartOf(0, 0), kind == 7 ? 0 : 2);
        }
    }

    private static void lowestCell() {
        Edge.of(8, "A phase", "on the cell with the lowest number on which no cart is, and that is no pit ");
        LockedCarts x = Races.of(63, 2, 0, 1);
        x.card(0, 0, 0, 1);
        x.phase();
        x.kind(63, 7);
        x.kind(1, 7);
        Edge.due("with a cart on 0 and a pit on 1", x.would(0, 4, 0), 2);
        x.kind(1, 6);
        Edge.due("with a cart on 0 alone", x.would(0, 4, 0), 1);
        x.card(1, 1, 0, 1);
        Edge.due("with a cart that steps off 0", x.would(0, 4, 0), 0);
        Races.pitsBut(x, 0, 1, 62);
        x.card(1, 1, 4, 1);
        x.kind(1, 7);
        Edge.due("with pits but on 0 and 62", x.would(0, 4, 0), 62);
        x.kind(62, 7);
        x.kind(63, 0);
        Edge.due("with pits but on 0 and the start", x.would(0, 4, 0), 63);
        LockedCarts last = Races.moving(0, 0, 0);
        last.phase();
        Races.pitsBut(last, 63);
        Edge.due("with pits but on the last cell", last.would(0, 4, 0), 63);
    }

    private static void noCell() {
        Edge.of(8, "A phase", "(if there is none, they stay out); ");
        LockedCarts x = Races.of(0, 0, 27, 1);
        x.card(0, 0, 0, 1);
        x.phase();
        Races.pitsBut(x, 27);
        x.round();
        Edge.due("its cell", x.cartOf(0, 0), NOT_FOUND);
        Edge.due("its direction", x.cartOf(0, 1), NOT_FOUND);
        Edge.due("carts out", x.count(4), 1);
        Edge.due("a round while it stays out", x.round(), 0);
        Edge.due("how often it was out", x.cartOf(0, 7), 1);
        x.kind(63, 0);
        Edge.due("ahead of the next end", x.would(0, 4, 0), NOT_FOUND);
        x.round();
        Edge.due("its cell when there is one", x.cartOf(0, 0), 63);
        Edge.due("how often it was out then", x.cartOf(0, 7), 1);
    }

    private static void oneCellForTwo() {
        Edge.of(8, "A phase", "the lowest first, ");
        LockedCarts x = Races.of(0, 0, 7, 0, 27, 1);
        x.card(0, 0, 0, 1);
        x.card(1, 0, 0, 1);
        x.phase();
        Races.pitsBut(x, 27, 40);
        x.round();
        Edge.due("the lowest one's cell", x.cartOf(0, 0), 40);
        Edge.due("the other one's", x.cartOf(1, 0), NOT_FOUND);
        x.undo();
        x.kind(7, 0);
        x.round();
        Edge.due("the lowest one's, the start of the other one", x.cartOf(0, 0), 7);
        Edge.due("the other one's then", x.cartOf(1, 0), 40);
    }

    private static void asTheyComeBack() {
        Edge.of(8, "A phase", "in any case their direction is 0, their damage 2, and all their registers are empty.");
        for (int damage : new int[] {0, 1, 2, 3, 9}) {
            for (int cells = 0; cells <= 2; cells++) {
                LockedCarts x = full(damage);
                x.kind(28, 7);
                x.kind(27, 2);
                Edge.due("phase() that carries it to a pit", x.phase(), 1);
                Races.pitsBut(x, cells == 0 ? new int[] {} : cells == 1 ? new int[] {40} : new int[] {27});
                x.round();
                int[] cell = {NOT_FOUND, 40, 27};
                Edge.due("its cell", x.cartOf(0, 0), cell[cells]);
                Edge.due("its direction", x.cartOf(0, 1), cells == 0 ? NOT_FOUND : 0);
                Edge.due("its damage behind " + damage, x.cartOf(0, 2), 2);
                Edge.due("its cards", x.cartOf(0, 6), 0);
                Edge.due("its locks", x.cartOf(0, 5), 0);
            }
        }
        LockedCarts stays = full(9);
        stays.round();
        Edge.due("damage of one that was not out", stays.cartOf(0, 2), 9);
        Edge.due("cards of one that was not out", stays.cartOf(0, 6), 31);
        Edge.due("direction of one that was not out", stays.cartOf(0, 1), 3);
    }

    private static void nextPhase() {
        Edge.of(17, "A phase", "The next phase is the phase 0.");
        LockedCarts x = Races.behind(Races.of(27, 1), 4);
        Edge.due("behind the phase 3", x.count(1), 4);
        x.phase();
        Edge.due("behind the phase 4", x.count(1), 0);
        Edge.due("a card into the register 0", x.card(0, 0, 0, 1), 1);
        x.phase();
        Edge.due("behind the phase 0", x.count(1), 1);
        Edge.due("its cell", x.cartOf(0, 0), 28);
    }
}
