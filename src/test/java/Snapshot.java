/** All that a race lets be read, as a text, to tell whether a call has changed anything. */
final class Snapshot {
    private static final int HISTORY = 7;
    private static final int TEXT = 8;

    private Snapshot() {
    }

    /** With the history's size and the text. */
    static String whole(LockedCarts x) {
        return race(x) + "history " + x.count(HISTORY) + " text " + x.count(TEXT)
            + " fault " + x.fault(0) + " " + x.fault(1) + " " + x.fault(2) + "\n";
    }

    /** What undo restores. */
    static String race(LockedCarts x) {
        StringBuilder all = new StringBuilder();
        for (int what = 0; what <= 3; what++) {
            all.append("cells ").append(what).append(':');
            for (int cell = 0; cell < 64; cell++) {
                all.append(' ').append(x.cellOf(cell, what));
            }
            all.append('\n');
        }
        for (int cart = 0; cart < x.count(0); cart++) {
            all.append("cart ").append(cart).append(':');
            for (int what = 0; what <= 8; what++) {
                all.append(' ').append(x.cartOf(cart, what));
            }
            for (int register = 0; register < 5; register++) {
                all.append(' ').append(x.cardOf(cart, register, 0)).append('/').append(x.cardOf(cart, register, 1));
            }
            all.append('\n');
        }
        all.append("counts:");
        for (int what = 0; what <= 9; what++) {
            if (what != HISTORY && what != TEXT) {
                all.append(' ').append(x.count(what));
            }
        }
        all.append("\nturns:");
        for (int place = 0; place < 4; place++) {
            all.append(' ').append(x.turn(place));
        }
        return all.append('\n').toString();
    }
}
