import java.util.function.Supplier;

/** Edges of the section 'Texts' and of the promises 19 to 22: type, clearText, fault, play. */
final class TextEdges {
    private static final int INVALID = LockedCarts.INVALID_ARGUMENT;
    private static final int NOT_POSSIBLE = LockedCarts.NOT_POSSIBLE;
    private static final int LIMIT = LockedCarts.LIMIT_REACHED;
    private static final int NOT_FOUND = LockedCarts.NOT_FOUND;

    private TextEdges() {
    }

    static void all() {
        lengths();
        orders();
        digits();
        unknownLetters();
        breaksOff();
        endsTooEarly();
        cutByTheLimit();
        position();
        refusedCalls();
        theFirstOne();
        type();
        clearText();
        fault();
        play();
        playNotPossible();
    }

    private static void faultOf(String text, LockedCarts x, int position, int reason, int cause) {
        Races.write(x, text);
        Edge.due("the position in '" + text + "'", x.fault(0), position);
        Edge.due("the reason in '" + text + "'", x.fault(1), reason);
        Edge.due("the cause in '" + text + "'", x.fault(2), cause);
    }

    private static void form(String text, int position, int cause) {
        faultOf(text, new LockedCarts(), position, 1, cause);
    }

    private static void refusal(String text, LockedCarts x, int position, int cause) {
        faultOf(text, x, position, 2, cause);
    }

    private static void noFault(String text, LockedCarts x) {
        faultOf(text, x, NOT_FOUND, NOT_FOUND, NOT_FOUND);
    }

    private static LockedCarts typed(int howMany) {
        LockedCarts x = new LockedCarts();
        for (int i = 0; i < howMany; i++) {
            x.type('r');
        }
        return x;
    }

    private static void lengths() {
        Edge.of(19, "Texts", "There is a text of at most 60 characters, initially empty: "
            + "orders, each followed by \";\": ");
        LockedCarts x = new LockedCarts();
        Edge.due("length at first", x.count(8), 0);
        for (int i = 1; i <= 60; i++) {
            Edge.due("type() number " + i, x.type(i % 2 == 1 ? 'r' : ';'), i);
        }
        Edge.due("type() number 61", x.type('r'), LIMIT);
        Edge.due("length then", x.count(8), 60);
        x.cart(27, 1);
        Edge.due("fault of thirty orders", x.fault(0), NOT_FOUND);
        Edge.due("play() of thirty orders", x.play(), 30);
    }

    private static void orders() {
        Edge.of(22, "Texts", "\"k\" a cell, \",\", a kind (of the cell), "
            + "\"w\" a cell, \",\", a side (a wall, or none if there is one), \"c\" a cell, \",\", a direction "
            + "(a cart comes), \"p\" a cart, \",\", a register, \",\", a move, \",\", a rank (a card is laid), "
            + "or \"r\" (the next phase); ");
        LockedCarts x = Races.written("k63,8;w0,3;c63,3;p0,4,6,999;r;");
        Edge.due("play()", x.play(), 5);
        Edge.due("the kind", x.cellOf(63, 0), 8);
        Edge.due("the wall", x.cellOf(0, 1), 8);
        Edge.due("the cart's cell", x.cartOf(0, 0), 63);
        Edge.due("its direction", x.cartOf(0, 1), 3);
        Edge.due("its card's move", x.cardOf(0, 4, 0), 6);
        Edge.due("its card's rank", x.cardOf(0, 4, 1), 999);
        Edge.due("phases", x.count(6), 1);
        Races.write(x, "w0,3;r;r;r;r;");
        Edge.due("play() of the rest of the round", x.play(), 5);
        Edge.due("no wall", x.cellOf(0, 1), 0);
        Edge.due("its direction then", x.cartOf(0, 1), 1);
        Edge.due("rounds", x.count(2), 1);
    }

    private static void digits() {
        Edge.of(21, "Texts", "numbers of 1 to 3 digits, 0 ahead allowed.");
        for (String text : new String[] {"k1,1;", "k01,1;", "k001,1;", "k1,01;", "k1,001;", "k000,000;", "k063,008;"}) {
            noFault(text, new LockedCarts());
        }
        form("k,1;", 0, 1);
        form("k0001,1;", 0, 4);
        form("k1,;", 0, 3);
        form("k1,0001;", 0, 6);
        refusal("k100,1;", new LockedCarts(), 0, INVALID);
        refusal("k999,1;", new LockedCarts(), 0, INVALID);
        for (String rank : new String[] {"1", "01", "001", "999"}) {
            LockedCarts x = Races.of(27, 1);
            Races.write(x, "p0,0,0," + rank + ";");
            Edge.due("play() with the rank " + rank, x.play(), 1);
            Edge.due("that rank", x.cardOf(0, 0, 1), Integer.parseInt(rank));
        }
        faultOf("p0,0,0,1000;", Races.of(27, 1), 0, 1, 10);
        refusal("p0,0,0,000;", Races.of(27, 1), 0, INVALID);
        // The signs beside the digits, 47 and 58, are none.
        form("k/,1;", 0, 1);
        form("k:,1;", 0, 1);
        noFault("k0,8;", new LockedCarts());
        refusal("k0,9;", new LockedCarts(), 0, INVALID);
    }

    private static void unknownLetters() {
        Edge.of(21, "Texts", "its reason is 1 if it is not of this form, its \";\" included, ");
        for (int sign = 32; sign <= 126; sign++) {
            boolean known = "kwcpr".indexOf(sign) >= 0;
            form((char) sign + "x", 0, known ? 1 : 0);
            form("k1,1;" + (char) sign, 5, known ? 1 : 0);
        }
        noFault("r;", oneCart());
        form("r", oneCart(), 0, 1);
        form("r:", oneCart(), 0, 1);
        form("r;;", oneCart(), 2, 0);
    }

    private static LockedCarts oneCart() {
        return Races.of(27, 1);
    }

    private static void form(String text, LockedCarts x, int position, int cause) {
        faultOf(text, x, position, 1, cause);
    }

    private static void breaksOff() {
        Edge.of(21, "Texts", "its cause is with the reason 1 at which character of the order, from 0, it breaks off ");
        for (String order : new String[] {"k63,008;", "w009,3;", "c21,0;", "p0,1,06,999;", "r;"}) {
            for (int at = 0; at < order.length(); at++) {
                String broken = order.substring(0, at) + "x" + order.substring(at);
                form(broken, oneCart(), 0, at);
                form("r;" + broken, oneCart(), 2, at);
            }
            noFault(order + "r;", oneCart());
            form(order + "x", oneCart(), order.length(), 0);
        }
        form("r1;", oneCart(), 0, 1);
        form("k1,1,1;", oneCart(), 0, 4);
        form("k1;", oneCart(), 0, 2);
        form("p0,0,0;", oneCart(), 0, 6);
        form("p0,0,0,1,1;", oneCart(), 0, 8);
    }

    private static void endsTooEarly() {
        Edge.of(21, "Texts", "(of one that the text ends too early it is its length), ");
        for (String order : new String[] {"k63,008;", "w009,3;", "c21,0;", "p0,1,06,999;", "r;"}) {
            for (int length = 1; length < order.length(); length++) {
                form(order.substring(0, length), oneCart(), 0, length);
                form("r;" + order.substring(0, length), oneCart(), 2, length);
            }
            noFault(order, oneCart());
            noFault("r;" + order, Races.of(28, 1));
        }
        noFault("", oneCart());
    }

    private static void cutByTheLimit() {
        Edge.of(21, "Texts", "(of one that the text ends too early it is its length), ");
        String orders = "r;".repeat(27);
        LockedCarts x = oneCart();
        Races.write(x, orders + "k63,8;");
        Edge.due("length", x.count(8), 60);
        Edge.due("fault of a text that is full", x.fault(0), NOT_FOUND);
        LockedCarts y = oneCart();
        Races.write(y, orders + "k063,8;");
        Edge.due("length of one that is cut", y.count(8), 60);
        Edge.due("its position", y.fault(0), 54);
        Edge.due("its reason", y.fault(1), 1);
        Edge.due("its cause", y.fault(2), 6);
    }

    private static void position() {
        Edge.of(21, "Texts", "The fault of the text is the position, from 0, "
            + "of the first character of the first order that is not possible; ");
        form("x", 0, 0);
        form("k1,1;x", 5, 0);
        form("k1,1;k1,1;x", 10, 0);
        form("k1,1;;", 5, 0);
        refusal("c0,0;c1,0;c1,0;r;", new LockedCarts(), 10, NOT_POSSIBLE);
        noFault("c0,0;c1,0;c2,0;r;", new LockedCarts());
        LockedCarts last = oneCart();
        Races.write(last, "r;".repeat(29) + "rx");
        Edge.due("the position of the last order there can be", last.fault(0), 58);
        Edge.due("its cause", last.fault(2), 1);
    }

    private static void refusedCalls() {
        Edge.of(21, "Texts", "and otherwise 2, when those ahead of it are done; ");
        Edge.of(21, "Texts", "and with the reason 2 the error code that the call returns for it.");
        refusal("k64,0;", oneCart(), 0, INVALID);
        refusal("k0,9;", oneCart(), 0, INVALID);
        refusal("k27,7;", oneCart(), 0, NOT_POSSIBLE);
        refusal("w64,0;", oneCart(), 0, INVALID);
        refusal("w0,4;", oneCart(), 0, INVALID);
        refusal("c64,0;", oneCart(), 0, INVALID);
        refusal("c0,4;", oneCart(), 0, INVALID);
        refusal("c27,0;", oneCart(), 0, NOT_POSSIBLE);
        refusal("p1,0,0,1;", oneCart(), 0, INVALID);
        refusal("p0,5,0,1;", oneCart(), 0, INVALID);
        refusal("p0,0,7,1;", oneCart(), 0, INVALID);
        refusal("p0,0,0,0;", oneCart(), 0, INVALID);
        refusal("r;", new LockedCarts(), 0, NOT_POSSIBLE);
        for (String text : new String[] {"k63,8;", "w63,3;", "c63,3;", "p0,4,6,999;", "r;"}) {
            noFault(text, oneCart());
        }
        // Those ahead of it are done.
        refusal("c0,0;c1,0;c2,0;c3,0;", oneCart(), 15, LIMIT);
        refusal("r;p0,0,0,1;", oneCart(), 2, NOT_POSSIBLE);
        noFault("r;p0,1,0,1;", oneCart());
        noFault("r;r;r;r;r;p0,0,0,1;", oneCart());
        refusal("k28,7;c28,0;", oneCart(), 6, NOT_POSSIBLE);
        noFault("k28,7;k28,6;c28,0;", oneCart());
        refusal("p0,0,2,1;r;p0,1,0,1;", Races.of(31, 1), 11, NOT_POSSIBLE);
        noFault("p0,0,2,1;r;p0,1,0,1;", Races.of(28, 1));
    }

    private static void theFirstOne() {
        Edge.of(21, "Texts", "of the first order that is not possible; ");
        refusal("r;x", new LockedCarts(), 0, NOT_POSSIBLE);
        form("x;r;", 0, 0);
        refusal("k64,0;k0,9;", new LockedCarts(), 0, INVALID);
        refusal("k0,0;r;k0", new LockedCarts(), 5, NOT_POSSIBLE);
        form("k0,0;k0", 5, 2);
    }

    private static void type() {
        Edge.range(19, "- `character`: 32 to 126", 32, 126, LockedCarts::new, LockedCarts::type);
        Edge.of(19, "Returns the length of the text; ");
        for (int length = 0; length < 60; length++) {
            Edge.due("type() behind " + length, typed(length).type(32), length + 1);
        }
        Edge.of(19, "LIMIT_REACHED if it has 60 characters.");
        Edge.due("type() into 59", typed(59).type(126), 60);
        Edge.refused(() -> typed(60), "type() into 60", x -> x.type(126), LIMIT);
        LockedCarts x = typed(60);
        x.clearText();
        Edge.due("type() into one that was emptied", x.type(126), 1);
    }

    private static void clearText() {
        Edge.of(20, "`int clearText()`: Empties the text.");
        LockedCarts x = typed(60);
        x.clearText();
        Edge.due("length", x.count(8), 0);
        Edge.due("fault", x.fault(0), NOT_FOUND);
        Edge.due("play()", x.play(), 0);
        Edge.of(20, "Returns the length it had.");
        for (int length = 0; length <= 60; length += 20) {
            LockedCarts y = typed(length);
            Edge.due("of " + length, y.clearText(), length);
            Edge.due("once more", y.clearText(), 0);
        }
        Edge.due("of 1", typed(1).clearText(), 1);
        Edge.due("of 59", typed(59).clearText(), 59);
    }

    private static void fault() {
        Supplier<LockedCarts> bad = () -> Races.written("k0,0;x");
        Edge.range(21, "- `what`: 0: its position; 1: its reason; 2: its cause", 0, 2, bad, LockedCarts::fault);
        Edge.due("its position", bad.get().fault(0), 5);
        Edge.due("its reason", bad.get().fault(1), 1);
        Edge.due("its cause", bad.get().fault(2), 0);
        Edge.of(21, "NOT_FOUND if the text has no fault (also if it is empty).");
        for (int what = 0; what <= 2; what++) {
            Edge.due("fault(" + what + ") of an empty text", new LockedCarts().fault(what), NOT_FOUND);
            Edge.due("fault(" + what + ") of a good one", Races.written("k0,0;").fault(what), NOT_FOUND);
        }
        for (int what : new int[] {-1, 3}) {
            Edge.due("fault(" + what + ") of an empty text", new LockedCarts().fault(what), INVALID);
        }
        for (String text : new String[] {"k0,0;x", "c27,1;r;c27,1;r;"}) {
            LockedCarts x = Races.written(text);
            x.fault(0);
            Check.same("all behind fault() of '" + text + "'", Snapshot.whole(x), Snapshot.whole(Races.written(text)));
        }
    }

    private static void play() {
        Edge.of(22, "`int play()`: Does all orders of the text, which stays.");
        LockedCarts x = Races.written("c27,1;w28,1;");
        Edge.due("play()", x.play(), 2);
        Edge.due("the first order's cart", x.cartOf(0, 0), 27);
        Edge.due("the last order's wall", x.cellOf(28, 1), 2);
        Edge.due("length then", x.count(8), 12);
        Edge.of(22, "They are one change, also if there are none.");
        Edge.due("states", x.count(7), 1);
        Edge.due("undo()", x.undo(), 0);
        Edge.due("carts then", x.count(0), 0);
        Edge.due("the wall then", x.cellOf(28, 1), 0);
        LockedCarts none = new LockedCarts();
        Edge.due("play() of none", none.play(), 0);
        Edge.due("states behind none", none.count(7), 1);
        Edge.of(22, "Returns how many there are in it; ");
        for (int orders = 0; orders <= 30; orders++) {
            LockedCarts y = Races.of(27, 1);
            Races.write(y, "r;".repeat(orders));
            Edge.due("play() of " + orders, y.play(), orders);
            Edge.due("phases", y.count(6), orders);
            Edge.due("states", y.count(7), 2);
        }
    }

    private static void playNotPossible() {
        Edge.of(22, "NOT_POSSIBLE if it has a fault.");
        for (String text : new String[] {"x", "k1,1;k1,1", "k1,1;k64,1;", "c27,1;c27,1;", "r;", "k1,1;;"}) {
            Edge.refused(() -> Races.written(text), "play() of '" + text + "'", LockedCarts::play, NOT_POSSIBLE);
        }
        Edge.due("play() with the last sign", Races.written("k1,1;k1,1;").play(), 2);
        Edge.due("play() with the last cell", Races.written("k1,1;k63,1;").play(), 2);
    }
}
