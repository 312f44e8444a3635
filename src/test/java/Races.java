/** Races with which tests begin, and what they do over and over. */
final class Races {
    private Races() {
    }

    /** Carts, each told by a cell and a direction. */
    static LockedCarts of(int... cellsAndDirections) {
        LockedCarts x = new LockedCarts();
        for (int i = 0; i + 1 < cellsAndDirections.length; i += 2) {
            x.cart(cellsAndDirections[i], cellsAndDirections[i + 1]);
        }
        return x;
    }

    /** One cart whose card for the phase 0 is a move. */
    static LockedCarts moving(int cell, int direction, int move) {
        LockedCarts x = of(cell, direction);
        x.card(0, 0, move, 1);
        return x;
    }

    /** The cart 0 went out over the upper border of the cell 0; the cart 1 is on 27. */
    static LockedCarts withOneOut() {
        LockedCarts x = of(0, 0, 27, 1);
        x.card(0, 0, 0, 1);
        x.phase();
        return x;
    }

    static void phases(LockedCarts x, int howMany) {
        for (int i = 0; i < howMany; i++) {
            x.phase();
        }
    }

    static LockedCarts behind(LockedCarts x, int phases) {
        phases(x, phases);
        return x;
    }

    static void pitsBut(LockedCarts x, int... but) {
        for (int cell = 0; cell < 64; cell++) {
            boolean spared = false;
            for (int other : but) {
                spared |= cell == other;
            }
            if (!spared) {
                x.kind(cell, 7);
            }
        }
    }

    static void write(LockedCarts x, String text) {
        x.clearText();
        for (char c : text.toCharArray()) {
            x.type(c);
        }
    }

    static LockedCarts written(String text) {
        LockedCarts x = new LockedCarts();
        write(x, text);
        return x;
    }
}
