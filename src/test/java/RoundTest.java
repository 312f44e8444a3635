/** Promises 8 and 9: the end of a round, carts that come back; round. */
public final class RoundTest {
    private static final int NOT_POSSIBLE = LockedCarts.NOT_POSSIBLE;
    private static final int NOT_FOUND = LockedCarts.NOT_FOUND;

    public static void main(String[] args) {
        phasesOfARound();
        wholeRounds();
        repair();
        cardsThatStay();
        lockedByTheDamageThen();
        lockedCardsAreRepeated();
        comingBack();
        startsThatAreTaken();
        startsThatArePits();
        noCellToComeBack();
        outOnce();
        Check.finish();
    }

    private static void phases(LockedCarts x, int howMany) {
        for (int i = 0; i < howMany; i++) {
            x.phase();
        }
    }

    private static void phasesOfARound() {
        LockedCarts x = new LockedCarts();
        x.cart(27, 1);
        for (int register = 0; register < 5; register++) {
            x.card(0, register, 5, register + 1);
        }
        for (int phase = 0; phase < 5; phase++) {
            Check.due("the next phase", x.count(1), phase);
            Check.due("rounds", x.count(2), 0);
            Check.due("registers with cards", x.cartOf(0, 6), 31);
            Check.due("phase()", x.phase(), 0);
            Check.due("direction behind " + phase, x.cartOf(0, 1), (phase + 2) % 4);
        }
        Check.due("the next phase then", x.count(1), 0);
        Check.due("rounds then", x.count(2), 1);
        Check.due("phases then", x.count(6), 5);
        Check.due("registers with cards then", x.cartOf(0, 6), 0);
        phases(x, 5);
        Check.due("no card of the last round", x.cartOf(0, 1), 2);
        Check.due("two rounds", x.count(2), 2);
    }

    private static void wholeRounds() {
        LockedCarts x = new LockedCarts();
        Check.due("round() without carts", x.round(), NOT_POSSIBLE);
        x.cart(0, 0);
        x.cart(24, 1);
        x.cart(63, 2);
        x.card(0, 1, 2, 5);
        x.card(1, 0, 0, 5);
        x.card(1, 4, 1, 5);
        x.card(2, 4, 0, 5);
        Check.due("round() with two that went out", x.round(), 2);
        Check.due("its cell behind the round", x.cartOf(1, 0), 27);
        Check.due("rounds", x.count(2), 1);
        Check.due("the next phase", x.count(1), 0);
        Check.due("phases", x.count(6), 5);
        Check.due("a round is one change", x.undo(), 3);
        Check.due("undone", x.cartOf(1, 0), 24);
        phases(x, 3);
        Check.due("round() from the phase 3 on", x.round(), 1);
        Check.due("phases then", x.count(6), 5);
        Check.due("rounds then", x.count(2), 1);
        Check.due("an empty round", x.round(), 0);
        Check.due("phases in all", x.count(6), 10);
    }

    private static void repair() {
        LockedCarts x = new LockedCarts();
        x.cart(0, 0);
        x.cart(9, 0);
        x.cart(18, 0);
        x.kind(0, 8);
        x.kind(9, 8);
        x.damage(0, 3);
        x.damage(2, 3);
        phases(x, 4);
        Check.due("no repair ahead of the end", x.cartOf(0, 2), 3);
        phases(x, 1);
        Check.due("damage behind a repair", x.cartOf(0, 2), 2);
        Check.due("damage is not below 0", x.cartOf(1, 2), 0);
        Check.due("damage elsewhere", x.cartOf(2, 2), 3);
        x.round();
        Check.due("damage behind another", x.cartOf(0, 2), 1);
        // It counts where the cart is behind the belts.
        LockedCarts y = new LockedCarts();
        y.cart(0, 0);
        y.damage(0, 5);
        y.kind(1, 8);
        phases(y, 4);
        y.kind(0, 2);
        y.phase();
        Check.due("damage of one carried to a repair", y.cartOf(0, 2), 4);
    }

    private static void fill(LockedCarts x, int cart) {
        for (int register = 0; register < 5; register++) {
            x.card(cart, register, 6, 10 + register);
        }
    }

    private static void cardsThatStay() {
        int[] stay = {0, 0, 0, 0, 0, 16, 24, 28, 30, 31};
        for (int damage = 0; damage <= 9; damage++) {
            LockedCarts x = new LockedCarts();
            x.cart(27, 1);
            fill(x, 0);
            x.damage(0, damage);
            x.round();
            Check.due("cards that stay with " + damage, x.cartOf(0, 6), stay[damage]);
            Check.due("the card of the register 4", x.cardOf(0, 4, 1), damage > 4 ? 14 : NOT_FOUND);
            Check.due("the card of the register 0", x.cardOf(0, 0, 0), damage > 8 ? 6 : NOT_FOUND);
        }
        LockedCarts x = new LockedCarts();
        x.cart(27, 1);
        x.card(0, 3, 6, 1);
        x.damage(0, 9);
        x.round();
        Check.due("locked registers can be empty", x.cartOf(0, 6), 8);
    }

    private static void lockedByTheDamageThen() {
        // Damage of the last phase locks a register; a repair lets one go.
        LockedCarts x = new LockedCarts();
        x.cart(0, 3);
        x.wall(0, 3);
        x.damage(0, 4);
        x.card(0, 4, 2, 1);
        x.card(0, 3, 6, 1);
        x.round();
        Check.due("its damage", x.cartOf(0, 2), 4);
        Check.due("no register is locked", x.cartOf(0, 6), 0);
        LockedCarts y = new LockedCarts();
        y.cart(0, 3);
        y.wall(0, 3);
        y.damage(0, 4);
        y.card(0, 4, 2, 1);
        y.round();
        Check.due("its damage by the last phase", y.cartOf(0, 2), 5);
        Check.due("the register 4 is locked", y.cartOf(0, 6), 16);
        LockedCarts z = new LockedCarts();
        z.cart(0, 3);
        z.kind(0, 8);
        fill(z, 0);
        z.damage(0, 6);
        z.round();
        Check.due("one is let go by the repair", z.cartOf(0, 6), 16);
    }

    private static void lockedCardsAreRepeated() {
        LockedCarts x = new LockedCarts();
        x.cart(24, 1);
        x.card(0, 4, 0, 7);
        x.card(0, 3, 0, 7);
        x.damage(0, 5);
        x.round();
        Check.due("behind a round", x.cartOf(0, 0), 26);
        x.round();
        Check.due("the locked card is repeated", x.cartOf(0, 0), 27);
        x.damage(0, -1);
        x.round();
        Check.due("and once more", x.cartOf(0, 0), 28);
        x.round();
        Check.due("then it is gone", x.cartOf(0, 0), 28);
    }

    private static void comingBack() {
        LockedCarts x = new LockedCarts();
        x.cart(7, 1);
        x.card(0, 1, 0, 7);
        x.damage(0, 9);
        phases(x, 2);
        Check.due("its damage while it is out", x.cartOf(0, 2), 9);
        Check.due("its cards while it is out", x.cartOf(0, 6), 2);
        Check.due("its locks while it is out", x.cartOf(0, 5), 31);
        phases(x, 2);
        Check.due("still out", x.count(4), 1);
        Check.due("the last phase", x.phase(), 0);
        Check.due("its cell", x.cartOf(0, 0), 7);
        Check.due("its direction", x.cartOf(0, 1), 0);
        Check.due("its damage", x.cartOf(0, 2), 2);
        Check.due("its cards, locked ones, too", x.cartOf(0, 6), 0);
        Check.due("it was out once", x.cartOf(0, 7), 1);
        Check.due("carts that are out", x.count(4), 0);
    }

    private static void startsThatAreTaken() {
        LockedCarts x = new LockedCarts();
        x.cart(2, 0);
        x.cart(0, 0);
        x.cart(10, 0);
        x.cart(4, 0);
        x.kind(1, 7);
        x.card(0, 0, 0, 9);
        x.card(1, 0, 0, 9);
        x.card(2, 0, 0, 5);
        x.card(3, 0, 0, 4);
        Check.due("round()", x.round(), 3);
        Check.due("its start is taken: the lowest free cell, which is another's start", x.cartOf(0, 0), 0);
        Check.due("so is that one's then", x.cartOf(1, 0), 3);
        Check.due("the one that took it", x.cartOf(2, 0), 2);
        Check.due("one that has its start", x.cartOf(3, 0), 4);
        Check.due("starts stay", x.cartOf(0, 4), 2);
    }

    private static void startsThatArePits() {
        LockedCarts x = new LockedCarts();
        x.cart(2, 0);
        x.card(0, 0, 0, 9);
        x.kind(0, 7);
        x.phase();
        x.kind(2, 7);
        x.round();
        Check.due("its start is a pit", x.cartOf(0, 0), 1);
        Check.due("its start stays", x.cartOf(0, 4), 2);
    }

    private static void pitsBut(LockedCarts x, int but) {
        for (int cell = 0; cell < 64; cell++) {
            if (cell != but) {
                x.kind(cell, 7);
            }
        }
    }

    private static void noCellToComeBack() {
        LockedCarts x = new LockedCarts();
        x.cart(2, 0);
        x.cart(9, 0);
        x.damage(0, 7);
        x.card(0, 0, 0, 9);
        x.phase();
        pitsBut(x, 9);
        x.round();
        Check.due("it stays out", x.cartOf(0, 0), NOT_FOUND);
        Check.due("its damage all the same", x.cartOf(0, 2), 2);
        Check.due("its cards all the same", x.cartOf(0, 6), 0);
        Check.due("it was out once", x.cartOf(0, 7), 1);
        x.kind(63, 3);
        x.wall(63, 2);
        x.round();
        Check.due("it comes back a round later", x.cartOf(0, 0), 63);
        Check.due("its direction", x.cartOf(0, 1), 0);
        Check.due("it was out once still", x.cartOf(0, 7), 1);
    }

    private static void outOnce() {
        LockedCarts x = new LockedCarts();
        x.cart(0, 0);
        x.kind(0, 1);
        Check.due("a belt at the start, round 1", x.round(), 1);
        Check.due("it is back", x.cartOf(0, 0), 0);
        Check.due("round 2", x.round(), 1);
        Check.due("it was out twice", x.cartOf(0, 7), 2);
    }
}
