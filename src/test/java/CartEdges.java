import java.util.function.Supplier;

/** Edges of the section 'Carts, registers' and of the promises 5 to 7, 11 and 12. */
final class CartEdges {
    private static final int INVALID = LockedCarts.INVALID_ARGUMENT;
    private static final int NOT_POSSIBLE = LockedCarts.NOT_POSSIBLE;
    private static final int LIMIT = LockedCarts.LIMIT_REACHED;
    private static final int NOT_FOUND = LockedCarts.NOT_FOUND;
    private static final Supplier<LockedCarts> ONE = () -> Races.of(27, 1);
    private static final Supplier<LockedCarts> TWO = () -> Races.of(27, 1, 9, 0);

    private CartEdges() {
    }

    static void all() {
        cartsAtMost();
        atFirst();
        registers();
        ranks();
        moves();
        turns();
        lockedRegisters();
        lockedForCards();
        cart();
        cartRefused();
        card();
        cardRefused();
        damage();
        cartOf();
        cartOfCounts();
        cartOfOneThatIsOut();
        cardOf();
    }

    private static void cartsAtMost() {
        Edge.of(5, "Carts, registers", "There are at most 4 carts, numbered from 0, ");
        Edge.due("a fourth one", Races.of(0, 0, 1, 0, 2, 0).cart(3, 0), 3);
        Edge.refused(() -> Races.of(0, 0, 1, 0, 2, 0, 3, 0), "a fifth one", x -> x.cart(4, 0), LIMIT);
        Edge.due("the first one", Races.of().cart(3, 0), 0);
        Edge.due("cartOf(3, 4) of four", Races.of(0, 0, 1, 0, 2, 0, 9, 0).cartOf(3, 4), 9);
        Edge.due("cartOf(3, 4) of three", Races.of(0, 0, 1, 0, 2, 0).cartOf(3, 4), INVALID);
    }

    private static void atFirst() {
        Edge.of(5, "Carts, registers", "each with a start (a cell), a cell on which it is, or out, a direction, "
            + "a damage (0 to 9; 0 at first), and how many flags it has touched (0 at first).");
        LockedCarts x = Races.of(63, 3);
        int[] due = {63, 3, 0, 0, 63};
        for (int what = 0; what < due.length; what++) {
            Edge.due("cartOf(0, " + what + ")", x.cartOf(0, what), due[what]);
        }
        Edge.due("damage up to 9", x.damage(0, 9), 9);
        Edge.due("no damage above 9", x.damage(0, 1), 9);
        Edge.due("damage down to 0", x.damage(0, -9), 0);
        Edge.due("no damage below 0", x.damage(0, -1), 0);
        x.flag(0, 63);
        Edge.due("a flag is not touched by being laid", x.cartOf(0, 3), 0);
        x.phase();
        Edge.due("but by a phase", x.cartOf(0, 3), 1);
    }

    private static void registers() {
        Edge.of(6, "Carts, registers", "It has 5 registers, 0 to 4, each with a card, or empty (at first).");
        LockedCarts x = ONE.get();
        Edge.due("registers with cards at first", x.cartOf(0, 6), 0);
        for (int register = 0; register < 5; register++) {
            Edge.due("the register " + register + " at first", x.cardOf(0, register, 1), NOT_FOUND);
            Edge.due("a card into it", x.card(0, register, 6, 9), register + 1);
            Edge.due("the register then", x.cardOf(0, register, 1), 9);
        }
        Edge.due("a register -1", x.card(0, -1, 6, 9), INVALID);
        Edge.due("a register 5", x.card(0, 5, 6, 9), INVALID);
        Edge.of(11, "Terms", "Sets of registers are told as bits: bit k is for the register k.");
        for (int register = 0; register < 5; register++) {
            LockedCarts y = ONE.get();
            y.card(0, register, 6, 9);
            Edge.due("the bit of " + register, y.cartOf(0, 6), 1 << register);
        }
    }

    private static void ranks() {
        Edge.of(6, "Carts, registers", "A card has a move, and a rank (1 to 999).");
        for (int rank : new int[] {1, 999}) {
            LockedCarts x = ONE.get();
            x.card(0, 0, 6, rank);
            Edge.due("the move", x.cardOf(0, 0, 0), 6);
            Edge.due("the rank", x.cardOf(0, 0, 1), rank);
        }
        for (int rank : new int[] {0, 1000}) {
            LockedCarts x = ONE.get();
            Edge.due("the rank " + rank, x.card(0, 0, 6, rank), INVALID);
            Edge.due("the register then", x.cardOf(0, 0, 1), NOT_FOUND);
        }
    }

    private static void moves() {
        Edge.of(8, "Carts, registers", "Moves are: 0 to 2: 1 to 3 steps ahead, 3: a step back, "
            + "4: a turn to the left, 5: to the right, 6: about.");
        int[] cells = {28, 29, 30, 26, 27, 27, 27};
        int[] directions = {1, 1, 1, 1, 0, 2, 3};
        for (int move = 0; move <= 6; move++) {
            LockedCarts x = Races.behind(Races.moving(27, 1, move), 1);
            Edge.due("cell behind the move " + move, x.cartOf(0, 0), cells[move]);
            Edge.due("direction behind the move " + move, x.cartOf(0, 1), directions[move]);
        }
    }

    private static void turns() {
        Edge.of(8, "Carts, registers", "4: a turn to the left, 5: to the right, 6: about.");
        int[][] due = {{3, 0, 1, 2}, {1, 2, 3, 0}, {2, 3, 0, 1}};
        int[] back = {35, 26, 19, 28};
        for (int direction = 0; direction < 4; direction++) {
            for (int move = 4; move <= 6; move++) {
                Edge.due("the move " + move + " from " + direction,
                    Races.behind(Races.moving(27, direction, move), 1).cartOf(0, 1), due[move - 4][direction]);
            }
            Edge.due("a step back from " + direction,
                Races.behind(Races.moving(27, direction, 3), 1).cartOf(0, 0), back[direction]);
        }
    }

    private static LockedCarts damaged(int damage) {
        LockedCarts x = ONE.get();
        x.damage(0, damage);
        return x;
    }

    private static void lockedRegisters() {
        Edge.of(11, "Carts, registers", "With a damage of 5 or more, so many registers are locked, "
            + "the last ones first, as the damage is above 4.");
        int[] locked = {0, 0, 0, 0, 0, 16, 24, 28, 30, 31};
        for (int damage = 0; damage <= 9; damage++) {
            Edge.due("locked with the damage " + damage, damaged(damage).cartOf(0, 5), locked[damage]);
        }
        LockedCarts x = damaged(5);
        x.damage(0, -1);
        Edge.due("locked with 4 again", x.cartOf(0, 5), 0);
    }

    private static void lockedForCards() {
        Edge.of(6, "Carts, registers", "No card can be laid into a locked register.");
        for (int damage = 4; damage <= 9; damage++) {
            int lowest = 9 - damage;
            for (int register = 0; register < 5; register++) {
                int due = register < lowest ? 1 : NOT_POSSIBLE;
                Edge.due("into " + register + " with the damage " + damage,
                    damaged(damage).card(0, register, 6, 1), due);
            }
        }
    }

    private static void cart() {
        Edge.range(5, "- `cell`: 0 to 63", 0, 63, LockedCarts::new, (x, n) -> x.cart(n, 0));
        Edge.range(5, "- `direction`: 0 to 3", 0, 3, LockedCarts::new, (x, n) -> x.cart(0, n));
        Edge.of(5, "Adds a cart on its start.");
        LockedCarts x = new LockedCarts();
        x.cart(63, 3);
        x.cart(0, 0);
        Edge.due("its cell", x.cartOf(0, 0), 63);
        Edge.due("its direction", x.cartOf(0, 1), 3);
        Edge.due("its start", x.cartOf(0, 4), 63);
        Edge.due("the other one's start", x.cartOf(1, 4), 0);
        Edge.of(5, "Returns its number; ");
        LockedCarts y = new LockedCarts();
        for (int n = 0; n < 4; n++) {
            Edge.due("the number " + n, y.cart(10 + n, 0), n);
        }
    }

    private static void cartRefused() {
        Edge.of(5, "NOT_POSSIBLE if a cart is on the cell, or it is a pit; ");
        Edge.refused(ONE, "on a cart", x -> x.cart(27, 1), NOT_POSSIBLE);
        for (int cell : new int[] {26, 28, 19, 35}) {
            Edge.due("beside a cart", ONE.get().cart(cell, 1), 1);
        }
        Edge.due("on the start of one that is out", Races.withOneOut().cart(0, 1), 2);
        for (int kind = 0; kind <= 8; kind++) {
            LockedCarts x = new LockedCarts();
            x.kind(27, kind);
            Edge.due("on the kind " + kind, x.cart(27, 1), kind == 7 ? NOT_POSSIBLE : 0);
            Edge.due("carts then", x.count(0), kind == 7 ? 0 : 1);
        }
        Edge.of(5, "LIMIT_REACHED if there are 4.");
        Edge.due("if there are 3", Races.of(0, 0, 1, 0, 2, 0).cart(63, 3), 3);
        Edge.refused(() -> Races.of(0, 0, 1, 0, 2, 0, 3, 0), "if there are 4", x -> x.cart(63, 3), LIMIT);
        LockedCarts x = Races.of(0, 0, 1, 0, 2, 0, 3, 0);
        x.undo();
        Edge.due("if there are 3 again", x.cart(63, 3), 3);
        Edge.due("a fourth one with one that is out", Races.behind(Races.moving(0, 0, 0), 1).cart(0, 0), 1);
    }

    private static void card() {
        Edge.range(6, "- `cart`: number of the cart", 0, 1, TWO, (x, n) -> x.card(n, 0, 0, 1));
        Edge.range(6, "- `register`: 0 to 4", 0, 4, ONE, (x, n) -> x.card(0, n, 0, 1));
        Edge.range(6, "- `move`: 0 to 6", 0, 6, ONE, (x, n) -> x.card(0, 0, n, 1));
        Edge.range(6, "- `rank`: 1 to 999", 1, 999, ONE, (x, n) -> x.card(0, 0, 0, n));
        Edge.of(6, "Lays a card into a register, in place of the one that was there.");
        LockedCarts x = TWO.get();
        x.card(1, 4, 6, 999);
        x.card(1, 4, 0, 1);
        Edge.due("its move", x.cardOf(1, 4, 0), 0);
        Edge.due("its rank", x.cardOf(1, 4, 1), 1);
        Edge.due("the register beside it", x.cardOf(1, 3, 1), NOT_FOUND);
        Edge.due("the other cart's", x.cardOf(0, 4, 1), NOT_FOUND);
        Edge.of(6, "Returns how many registers of the cart have cards then; ");
        LockedCarts y = TWO.get();
        y.card(0, 4, 6, 1);
        int[] order = {4, 0, 2, 3, 1};
        for (int i = 0; i < 5; i++) {
            Edge.due("a card into " + order[i], y.card(1, order[i], 6, 1), i + 1);
            Edge.due("once more", y.card(1, order[i], 5, 2), i + 1);
        }
    }

    private static void cardRefused() {
        Edge.of(6, "NOT_POSSIBLE if the register is locked, the cart is out, or the register is below the next phase.");
        Edge.refused(() -> damaged(5), "into the register 4 with 5", x -> x.card(0, 4, 0, 1), NOT_POSSIBLE);
        Edge.due("into the register 3 with 5", damaged(5).card(0, 3, 0, 1), 1);
        Edge.due("into the register 4 with 4", damaged(4).card(0, 4, 0, 1), 1);
        Edge.refused(() -> damaged(9), "into the register 0 with 9", x -> x.card(0, 0, 0, 1), NOT_POSSIBLE);
        Edge.due("into the register 0 with 8", damaged(8).card(0, 0, 0, 1), 1);
        Edge.refused(Races::withOneOut, "of one that is out", x -> x.card(0, 4, 0, 1), NOT_POSSIBLE);
        Edge.due("of another one", Races.withOneOut().card(1, 4, 0, 1), 1);
        Edge.due("of one that came back", Races.behind(Races.withOneOut(), 4).card(0, 0, 0, 1), 1);
        for (int phases = 0; phases <= 5; phases++) {
            int next = phases % 5;
            int behind = phases;
            Edge.due("into the next phase " + next, Races.behind(ONE.get(), phases).card(0, next, 0, 1), 1);
            if (next > 0) {
                Edge.refused(() -> Races.behind(ONE.get(), behind), "below the next phase " + next,
                    x -> x.card(0, next - 1, 0, 1), NOT_POSSIBLE);
            }
        }
    }

    private static void damage() {
        Edge.range(7, "- `cart`: number of the cart", 0, 1, TWO, (x, n) -> x.damage(n, 1));
        Edge.range(7, "- `by`: -9 to 9", -9, 9, ONE, (x, n) -> x.damage(0, n));
        Edge.of(7, "Damages a cart, or repairs it.");
        LockedCarts x = TWO.get();
        Edge.due("damage(1, 1)", x.damage(1, 1), 1);
        Edge.due("damage(1, 0)", x.damage(1, 0), 1);
        Edge.due("damage(1, -1)", x.damage(1, -1), 0);
        Edge.due("of the other one", x.cartOf(0, 2), 0);
        Edge.of(7, "Returns its damage then, held between 0 and 9; ");
        int[][] due = {{8, 1, 9}, {8, 2, 9}, {9, 0, 9}, {9, 9, 9}, {1, -1, 0}, {1, -2, 0}, {0, -9, 0}, {9, -9, 0},
            {9, -8, 1}, {0, 9, 9}, {0, 8, 8}};
        for (int[] row : due) {
            LockedCarts y = damaged(row[0]);
            Edge.due(row[0] + " and " + row[1], y.damage(0, row[1]), row[2]);
            Edge.due("its damage then", y.cartOf(0, 2), row[2]);
        }
        Edge.of(7, "NOT_POSSIBLE if it is out.");
        Edge.refused(Races::withOneOut, "of one that is out", y -> y.damage(0, 1), NOT_POSSIBLE);
        Edge.refused(Races::withOneOut, "by 0", y -> y.damage(0, 0), NOT_POSSIBLE);
        Edge.due("of one ahead of going out", Races.moving(0, 0, 0).damage(0, 1), 1);
        Edge.due("of one that came back", Races.behind(Races.withOneOut(), 4).damage(0, 1), 3);
    }

    private static LockedCarts raced() {
        LockedCarts x = Races.of(8, 3, 63, 0);
        x.flag(0, 55);
        x.card(1, 0, 0, 9);
        x.card(1, 3, 0, 9);
        x.damage(1, 6);
        x.wall(55, 0);
        x.card(1, 1, 0, 9);
        return Races.behind(x, 2);
    }

    private static void cartOf() {
        Edge.range(11, "- `cart`: number of the cart", 0, 1, TWO, (x, n) -> x.cartOf(n, 0));
        Edge.range(11, "- `what`: 0: its cell; 1: its direction; 2: its damage; 3: flags that it has touched; "
            + "4: its start; 5: its locked registers, as a set; 6: its registers with cards, as a set; "
            + "7: how often it was out so far; 8: how often it was stopped by its own move so far",
            0, 8, CartEdges::raced, (x, n) -> x.cartOf(1, n));
        int[] due = {55, 0, 7, 1, 63, 28, 11, 0, 1};
        for (int what = 0; what < due.length; what++) {
            Edge.due("cartOf(1, " + what + ")", raced().cartOf(1, what), due[what]);
        }
        Edge.due("locked of the other one", raced().cartOf(0, 5), 0);
        Edge.due("the lowest register locked", damaged(9).cartOf(0, 5), 31);
    }

    private static void cartOfCounts() {
        Edge.of(11, "7: how often it was out so far; 8: how often it was stopped by its own move so far");
        LockedCarts x = Races.of(0, 0);
        for (int round = 1; round <= 3; round++) {
            Edge.due("out ahead of the round " + round, x.cartOf(0, 7), round - 1);
            x.card(0, 4, 0, 1);
            x.round();
            Edge.due("out behind the round " + round, x.cartOf(0, 7), round);
        }
        LockedCarts y = Races.of(27, 1, 28, 1);
        y.wall(28, 1);
        for (int phase = 0; phase < 3; phase++) {
            Edge.due("stopped ahead of " + phase, y.cartOf(0, 8), phase);
            y.card(0, phase, 2, 1);
            y.phase();
        }
        Edge.due("stopped then", y.cartOf(0, 8), 3);
        Edge.due("stopped by another's move", y.cartOf(1, 8), 0);
    }

    private static void cartOfOneThatIsOut() {
        Edge.of(11, "NOT_FOUND for 0 and 1 if it is out.");
        int[] out = {NOT_FOUND, NOT_FOUND, 0, 0, 0, 0, 1, 1, 0};
        for (int what = 0; what < out.length; what++) {
            Edge.due("cartOf(0, " + what + ")", Races.withOneOut().cartOf(0, what), out[what]);
        }
        Edge.due("cell ahead of it", Races.moving(0, 0, 0).cartOf(0, 0), 0);
        Edge.due("direction ahead of it", Races.moving(0, 0, 0).cartOf(0, 1), 0);
        Edge.due("cell when it is back", Races.behind(Races.withOneOut(), 4).cartOf(0, 0), 0);
        Edge.due("direction when it is back", Races.behind(Races.withOneOut(), 4).cartOf(0, 1), 0);
    }

    private static LockedCarts withCards() {
        LockedCarts x = TWO.get();
        x.card(0, 0, 6, 999);
        x.card(1, 0, 0, 1);
        x.card(1, 4, 2, 7);
        return x;
    }

    private static void cardOf() {
        Edge.range(12, "- `cart`: number of the cart", 0, 1, CartEdges::withCards, (x, n) -> x.cardOf(n, 0, 0));
        Supplier<LockedCarts> full = () -> {
            LockedCarts x = ONE.get();
            for (int register = 0; register < 5; register++) {
                x.card(0, register, 3, 5);
            }
            return x;
        };
        Edge.range(12, "- `register`: 0 to 4", 0, 4, full, (x, n) -> x.cardOf(0, n, 1));
        Edge.range(12, "- `what`: 0: its move; 1: its rank", 0, 1, full, (x, n) -> x.cardOf(0, 4, n));
        LockedCarts x = withCards();
        Edge.due("cardOf(0, 0, 0)", x.cardOf(0, 0, 0), 6);
        Edge.due("cardOf(0, 0, 1)", x.cardOf(0, 0, 1), 999);
        Edge.due("cardOf(1, 0, 0)", x.cardOf(1, 0, 0), 0);
        Edge.due("cardOf(1, 0, 1)", x.cardOf(1, 0, 1), 1);
        Edge.due("cardOf(1, 4, 0)", x.cardOf(1, 4, 0), 2);
        Edge.due("cardOf(1, 4, 1)", x.cardOf(1, 4, 1), 7);
        Edge.of(12, "NOT_FOUND if the register is empty.");
        for (int register = 1; register <= 3; register++) {
            Edge.due("the move in " + register, x.cardOf(1, register, 0), NOT_FOUND);
            Edge.due("the rank in " + register, x.cardOf(1, register, 1), NOT_FOUND);
        }
        Edge.due("the register 4 of the other one", x.cardOf(0, 4, 0), NOT_FOUND);
        x.round();
        Edge.due("behind the round", x.cardOf(1, 4, 0), NOT_FOUND);
        x.undo();
        Edge.due("ahead of it", x.cardOf(1, 4, 0), 2);
    }
}
