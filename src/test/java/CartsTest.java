/** Promises 5 to 7, 11 and 12: cart, card, damage, cartOf, cardOf. */
public final class CartsTest {
    private static final int INVALID = LockedCarts.INVALID_ARGUMENT;
    private static final int NOT_POSSIBLE = LockedCarts.NOT_POSSIBLE;
    private static final int LIMIT = LockedCarts.LIMIT_REACHED;
    private static final int NOT_FOUND = LockedCarts.NOT_FOUND;

    public static void main(String[] args) {
        carts();
        cartsRefused();
        cards();
        cardsRefused();
        damages();
        damagesRefused();
        locks();
        cartValues();
        cardValues();
        Check.finish();
    }

    private static void carts() {
        LockedCarts x = new LockedCarts();
        int[] cells = {0, 63, 7, 20};
        for (int n = 0; n < 4; n++) {
            Check.due("cart " + n, x.cart(cells[n], n), n);
            Check.due("its cell", x.cartOf(n, 0), cells[n]);
            Check.due("its direction", x.cartOf(n, 1), n);
            Check.due("its start", x.cartOf(n, 4), cells[n]);
            for (int what : new int[] {2, 3, 5, 6, 7, 8}) {
                Check.due("its value " + what, x.cartOf(n, what), 0);
            }
            Check.due("carts", x.count(0), n + 1);
        }
    }

    private static void cartsRefused() {
        LockedCarts x = new LockedCarts();
        x.cart(0, 0);
        x.kind(1, 7);
        Check.due("cart(0, 1) on a cart", x.cart(0, 1), NOT_POSSIBLE);
        Check.due("cart(1, 1) on a pit", x.cart(1, 1), NOT_POSSIBLE);
        Check.due("cart(-1, 0)", x.cart(-1, 0), INVALID);
        Check.due("cart(64, 0)", x.cart(64, 0), INVALID);
        Check.due("cart(2, -1)", x.cart(2, -1), INVALID);
        Check.due("cart(2, 4)", x.cart(2, 4), INVALID);
        Check.due("cart(0, 4)", x.cart(0, 4), INVALID);
        x.cart(2, 0);
        x.cart(3, 0);
        x.cart(4, 0);
        Check.due("a fifth cart", x.cart(5, 0), LIMIT);
        Check.due("a fifth cart on a cart", x.cart(4, 0), NOT_POSSIBLE);
        Check.due("a fifth cart on a pit", x.cart(1, 0), NOT_POSSIBLE);
        Check.due("a fifth cart nowhere", x.cart(64, 0), INVALID);
        // A cart that is out is on no cell, not even on its start.
        LockedCarts y = new LockedCarts();
        y.cart(0, 0);
        y.card(0, 0, 0, 1);
        y.phase();
        Check.due("a cart on the start of one that is out", y.cart(0, 2), 1);
    }

    private static void cards() {
        LockedCarts x = new LockedCarts();
        x.cart(9, 0);
        x.cart(20, 0);
        Check.due("card(1, 4, 6, 999)", x.card(1, 4, 6, 999), 1);
        Check.due("card(1, 0, 0, 1)", x.card(1, 0, 0, 1), 2);
        Check.due("card(1, 4, 3, 7) in place", x.card(1, 4, 3, 7), 2);
        Check.due("its move", x.cardOf(1, 4, 0), 3);
        Check.due("its rank", x.cardOf(1, 4, 1), 7);
        Check.due("card(0, 2, 4, 7) of another", x.card(0, 2, 4, 7), 1);
        Check.due("registers with cards", x.cartOf(1, 6), 17);
        Check.due("registers with cards of another", x.cartOf(0, 6), 4);
        x.phase();
        x.phase();
        Check.due("card into the next phase", x.card(0, 2, 5, 9), 1);
        Check.due("card into a later one", x.card(0, 4, 5, 9), 2);
    }

    private static void cardsRefused() {
        LockedCarts x = new LockedCarts();
        x.cart(9, 0);
        x.damage(0, 5);
        x.cart(0, 0);
        x.card(1, 0, 0, 3);
        x.phase();
        Check.due("card into a locked register", x.card(0, 4, 0, 1), NOT_POSSIBLE);
        Check.due("card into an earlier register", x.card(0, 0, 0, 1), NOT_POSSIBLE);
        Check.due("card of a cart that is out", x.card(1, 2, 0, 1), NOT_POSSIBLE);
        Check.due("card(-1, ..)", x.card(-1, 2, 0, 1), INVALID);
        Check.due("card(2, ..)", x.card(2, 2, 0, 1), INVALID);
        Check.due("card(0, -1, ..)", x.card(0, -1, 0, 1), INVALID);
        Check.due("card(0, 5, ..)", x.card(0, 5, 0, 1), INVALID);
        Check.due("move -1", x.card(0, 2, -1, 1), INVALID);
        Check.due("move 7", x.card(0, 4, 7, 1), INVALID);
        Check.due("rank 0", x.card(1, 2, 0, 0), INVALID);
        Check.due("rank 1000", x.card(0, 0, 0, 1000), INVALID);
        Check.due("register 3 is free", x.card(0, 3, 0, 1), 1);
    }

    private static void damages() {
        LockedCarts x = new LockedCarts();
        x.cart(9, 0);
        Check.due("damage(0, 0)", x.damage(0, 0), 0);
        Check.due("that is a change", x.count(7), 2);
        Check.due("damage(0, 4)", x.damage(0, 4), 4);
        Check.due("damage(0, 9) is held", x.damage(0, 9), 9);
        Check.due("damage(0, -3)", x.damage(0, -3), 6);
        Check.due("damage(0, -9) is held", x.damage(0, -9), 0);
        Check.due("damage(0, 9)", x.damage(0, 9), 9);
        Check.due("cartOf(0, 2)", x.cartOf(0, 2), 9);
    }

    private static void damagesRefused() {
        LockedCarts x = new LockedCarts();
        x.cart(0, 0);
        x.cart(20, 0);
        x.card(0, 0, 0, 1);
        x.phase();
        Check.due("damage of a cart that is out", x.damage(0, 1), NOT_POSSIBLE);
        Check.due("damage(0, 10)", x.damage(0, 10), INVALID);
        Check.due("damage(1, 10)", x.damage(1, 10), INVALID);
        Check.due("damage(1, -10)", x.damage(1, -10), INVALID);
        Check.due("damage(2, 1)", x.damage(2, 1), INVALID);
        Check.due("damage(-1, 1)", x.damage(-1, 1), INVALID);
    }

    private static void locks() {
        LockedCarts x = new LockedCarts();
        x.cart(9, 0);
        int[] locked = {0, 0, 0, 0, 0, 16, 24, 28, 30, 31};
        for (int damage = 0; damage <= 9; damage++) {
            Check.due("locked with " + damage, x.cartOf(0, 5), locked[damage]);
            for (int register = 0; register < 5; register++) {
                boolean free = (locked[damage] >> register & 1) == 0;
                int got = x.card(0, register, 6, 5);
                Check.due("card into " + register + " with " + damage, got < 0 ? got : 0, free ? 0 : NOT_POSSIBLE);
            }
            x.damage(0, 1);
        }
        Check.due("cards stay in locked registers", x.cartOf(0, 6), 31);
        x.damage(0, -5);
        Check.due("and behind them", x.cartOf(0, 6), 31);
        Check.due("a register is free again", x.card(0, 4, 0, 5), 5);
    }

    private static void cartValues() {
        LockedCarts x = new LockedCarts();
        x.cart(8, 0);
        x.cart(20, 3);
        x.flag(0, 19);
        x.card(0, 0, 2, 5);
        x.card(1, 0, 0, 4);
        x.card(1, 3, 5, 4);
        x.damage(1, 6);
        x.wall(19, 3);
        x.card(1, 1, 1, 9);
        x.phase();
        x.phase();
        int[] values = {19, 3, 7, 1, 20, 28, 11, 0, 1};
        for (int what = 0; what < values.length; what++) {
            Check.due("cartOf(1, " + what + ")", x.cartOf(1, what), values[what]);
        }
        int[] out = {NOT_FOUND, NOT_FOUND, 0, 0, 8, 0, 1, 1, 0};
        for (int what = 0; what < out.length; what++) {
            Check.due("cartOf(0, " + what + ") that is out", x.cartOf(0, what), out[what]);
        }
        Check.due("cartOf(-1, 0)", x.cartOf(-1, 0), INVALID);
        Check.due("cartOf(2, 0)", x.cartOf(2, 0), INVALID);
        Check.due("cartOf(0, -1)", x.cartOf(0, -1), INVALID);
        Check.due("cartOf(0, 9)", x.cartOf(0, 9), INVALID);
    }

    private static void cardValues() {
        LockedCarts x = new LockedCarts();
        x.cart(20, 0);
        x.card(0, 0, 0, 1);
        x.card(0, 4, 6, 999);
        Check.due("cardOf(0, 0, 0)", x.cardOf(0, 0, 0), 0);
        Check.due("cardOf(0, 0, 1)", x.cardOf(0, 0, 1), 1);
        Check.due("cardOf(0, 4, 0)", x.cardOf(0, 4, 0), 6);
        Check.due("cardOf(0, 4, 1)", x.cardOf(0, 4, 1), 999);
        Check.due("cardOf(0, 1, 0) of an empty one", x.cardOf(0, 1, 0), NOT_FOUND);
        Check.due("cardOf(0, 1, 1) of an empty one", x.cardOf(0, 1, 1), NOT_FOUND);
        Check.due("cardOf(1, 0, 0)", x.cardOf(1, 0, 0), INVALID);
        Check.due("cardOf(-1, 0, 0)", x.cardOf(-1, 0, 0), INVALID);
        Check.due("cardOf(0, -1, 0)", x.cardOf(0, -1, 0), INVALID);
        Check.due("cardOf(0, 5, 0)", x.cardOf(0, 5, 0), INVALID);
        Check.due("cardOf(0, 1, -1)", x.cardOf(0, 1, -1), INVALID);
        Check.due("cardOf(0, 1, 2)", x.cardOf(0, 1, 2), INVALID);
        x.phase();
        Check.due("a card stays behind its phase", x.cardOf(0, 0, 1), 1);
    }
}
