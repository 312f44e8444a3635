/** Promises 19 to 22: type, clearText, fault, play. */
public final class TextTest {
    private static final int INVALID = LockedCarts.INVALID_ARGUMENT;
    private static final int NOT_POSSIBLE = LockedCarts.NOT_POSSIBLE;
    private static final int LIMIT = LockedCarts.LIMIT_REACHED;
    private static final int NOT_FOUND = LockedCarts.NOT_FOUND;

    public static void main(String[] args) {
        typing();
        typingRefused();
        clearing();
        forms();
        formsBreakOff();
        refusedOrders();
        orderByOrder();
        faultChangesNothing();
        playing();
        playingEachOrder();
        playingRefused();
        playingTwice();
        longTexts();
        Check.finish();
    }

    private static void write(LockedCarts x, String text) {
        x.clearText();
        for (char c : text.toCharArray()) {
            x.type(c);
        }
    }

    private static void fault(LockedCarts x, String text, int position, int reason, int cause) {
        write(x, text);
        Check.due("position in '" + text + "'", x.fault(0), position);
        Check.due("reason in '" + text + "'", x.fault(1), reason);
        Check.due("cause in '" + text + "'", x.fault(2), cause);
    }

    private static void noFault(LockedCarts x, String text) {
        fault(x, text, NOT_FOUND, NOT_FOUND, NOT_FOUND);
    }

    private static void typing() {
        LockedCarts x = new LockedCarts();
        for (int i = 1; i <= 60; i++) {
            Check.due("type " + i, x.type(i % 2 == 0 ? 32 : 126), i);
        }
        Check.due("length", x.count(8), 60);
        Check.due("no state by typing", x.count(7), 0);
    }

    private static void typingRefused() {
        LockedCarts x = new LockedCarts();
        x.type('k');
        Check.due("type(31)", x.type(31), INVALID);
        Check.due("type(127)", x.type(127), INVALID);
        Check.due("type(-1)", x.type(-1), INVALID);
        Check.due("type(65536 + 48)", x.type(65536 + 48), INVALID);
        while (x.count(8) < 60) {
            x.type('1');
        }
        Check.due("type(48) into a full text", x.type(48), LIMIT);
        Check.due("type(127) into a full text", x.type(127), INVALID);
    }

    private static void clearing() {
        LockedCarts x = new LockedCarts();
        Check.due("clearText() of nothing", x.clearText(), 0);
        write(x, "k1,1;r");
        Check.due("clearText()", x.clearText(), 6);
        Check.due("length", x.count(8), 0);
        Check.due("no fault", x.fault(0), NOT_FOUND);
        Check.due("clearText() again", x.clearText(), 0);
        Check.due("type() behind it", x.type('z'), 1);
        Check.due("its fault", x.fault(2), 0);
        Check.due("no state by clearing", x.count(7), 0);
    }

    private static void forms() {
        LockedCarts x = new LockedCarts();
        noFault(x, "");
        noFault(x, "k0,0;");
        noFault(x, "k63,8;");
        noFault(x, "k009,008;");
        noFault(x, "w00,003;w63,2;");
        noFault(x, "c27,1;");
        noFault(x, "c27,1;p0,4,6,999;");
        noFault(x, "c27,1;p000,004,006,001;r;r;");
        Check.due("fault(-1)", x.fault(-1), INVALID);
        Check.due("fault(3)", x.fault(3), INVALID);
        x.clearText();
        Check.due("fault(3) of nothing", x.fault(3), INVALID);
    }

    private static LockedCarts withACart() {
        LockedCarts x = new LockedCarts();
        x.cart(0, 1);
        return x;
    }

    private static void formsBreakOff() {
        LockedCarts x = withACart();
        String[] broken = {"x", " r;", ";", ",", "1,1;", "K1,1;", "R;"};
        for (String text : broken) {
            fault(x, text, 0, 1, 0);
            fault(x, "r;" + text, 2, 1, 0);
        }
        String[] whole = {"k63,008;", "w009,3;", "c21,0;", "p0,1,06,999;", "r;"};
        for (String text : whole) {
            for (int length = 1; length < text.length(); length++) {
                LockedCarts y = withACart();
                fault(y, text.substring(0, length), 0, 1, length);
                fault(y, "k1,1;" + text.substring(0, length), 5, 1, length);
                fault(y, text.substring(0, length) + "x", 0, 1, length);
                fault(y, text.substring(0, length) + " " + text.substring(length), 0, 1, length);
            }
            noFault(withACart(), text);
        }
        fault(x, "k0001,1;", 0, 1, 4);
        fault(x, "k1,0001;", 0, 1, 6);
        fault(x, "k,1;", 0, 1, 1);
        fault(x, "k1,;", 0, 1, 3);
        fault(x, "k1;", 0, 1, 2);
        fault(x, "k1,1,1;", 0, 1, 4);
        fault(x, "k-1,1;", 0, 1, 1);
        fault(x, "r1;", 0, 1, 1);
        fault(x, "rr;", 0, 1, 1);
        fault(x, "p0,1,2;", 0, 1, 6);
        fault(x, "p0,1,2,3,4;", 0, 1, 8);
        fault(x, "p0,1,2,1000;", 0, 1, 10);
        fault(x, "k1,1;;", 5, 1, 0);
    }

    private static void refusedOrders() {
        LockedCarts x = new LockedCarts();
        x.cart(9, 1);
        x.damage(0, 5);
        fault(x, "k64,0;", 0, 2, INVALID);
        fault(x, "k0,9;", 0, 2, INVALID);
        fault(x, "k9,7;", 0, 2, NOT_POSSIBLE);
        fault(x, "w64,0;", 0, 2, INVALID);
        fault(x, "w0,4;", 0, 2, INVALID);
        fault(x, "c999,0;", 0, 2, INVALID);
        fault(x, "c9,0;", 0, 2, NOT_POSSIBLE);
        fault(x, "c9,4;", 0, 2, INVALID);
        fault(x, "c0,0;c1,0;c2,0;c3,0;", 15, 2, LIMIT);
        fault(x, "c0,0;c1,0;c2,0;c2,0;", 15, 2, NOT_POSSIBLE);
        fault(x, "p0,4,1,1;", 0, 2, NOT_POSSIBLE);
        fault(x, "p0,0,1,0;", 0, 2, INVALID);
        fault(x, "p1,0,1,1;", 0, 2, INVALID);
        fault(x, "p0,5,1,1;", 0, 2, INVALID);
        fault(x, "p0,0,7,1;", 0, 2, INVALID);
        fault(new LockedCarts(), "r;", 0, 2, NOT_POSSIBLE);
    }

    /** An order can be possible, or not, by those ahead of it. */
    private static void orderByOrder() {
        LockedCarts x = new LockedCarts();
        noFault(x, "c0,0;r;");
        fault(x, "r;c0,0;", 0, 2, NOT_POSSIBLE);
        fault(x, "k5,7;c5,0;", 5, 2, NOT_POSSIBLE);
        noFault(x, "k5,7;k5,0;c5,0;");
        fault(x, "c8,0;r;p0,0,0,1;", 7, 2, NOT_POSSIBLE);
        noFault(x, "c8,0;r;p0,1,0,1;");
        fault(x, "c0,0;p0,0,0,9;r;p0,1,0,1;", 16, 2, NOT_POSSIBLE);
        noFault(x, "c0,0;w0,0;p0,0,0,9;r;p0,1,0,1;");
        // The first fault counts, whatever its reason.
        fault(x, "r;x", 0, 2, NOT_POSSIBLE);
        fault(x, "k0,0;x;r;", 5, 1, 0);
        fault(x, "c0,0;r;k64,0;k", 7, 2, INVALID);
    }

    private static LockedCarts withALongText() {
        LockedCarts x = new LockedCarts();
        x.cart(27, 1);
        x.card(0, 0, 2, 5);
        write(x, "k9,5;w3,1;c9,0;p1,0,0,9;r;c9,1;c9,1;");
        return x;
    }

    private static void faultChangesNothing() {
        LockedCarts x = withALongText();
        Check.due("position", x.fault(0), 31);
        Check.same("what there is behind fault", Snapshot.whole(x), Snapshot.whole(withALongText()));
        x.type('r');
        Check.due("position with more behind it", x.fault(0), 31);
    }

    private static void playing() {
        LockedCarts x = new LockedCarts();
        Check.due("play() of nothing", x.play(), 0);
        Check.due("it is a change all the same", x.count(7), 1);
        write(x, "c27,1;p0,0,0,9;k28,2;w29,1;k29,6;r;");
        Check.due("play()", x.play(), 6);
        Check.due("one change", x.count(7), 2);
        Check.due("the text stays", x.count(8), 35);
        Check.due("its cell", x.cartOf(0, 0), 29);
        Check.due("its direction", x.cartOf(0, 1), 2);
        Check.due("the wall", x.cellOf(30, 1), 8);
        Check.due("phases", x.count(6), 1);
        Check.due("undo()", x.undo(), 1);
        Check.due("no cart any more", x.count(0), 0);
        Check.due("the wall is gone", x.cellOf(30, 1), 0);
        Check.due("the text stays at undo", x.count(8), 35);
        Check.due("play() again", x.play(), 6);
        Check.due("its cell again", x.cartOf(0, 0), 29);
    }

    private static void playingEachOrder() {
        LockedCarts x = new LockedCarts();
        x.cart(27, 1);
        write(x, "w027,003;");
        Check.due("play() of a wall", x.play(), 1);
        Check.due("a wall", x.cellOf(27, 1), 8);
        Check.due("play() of it again", x.play(), 1);
        Check.due("none", x.cellOf(27, 1), 0);
        write(x, "k5,8;");
        x.play();
        Check.due("a kind", x.cellOf(5, 0), 8);
        write(x, "c63,2;");
        x.play();
        Check.due("a cart", x.cartOf(1, 0), 63);
        Check.due("its direction", x.cartOf(1, 1), 2);
        write(x, "p1,4,5,321;");
        x.play();
        Check.due("a card's move", x.cardOf(1, 4, 0), 5);
        Check.due("a card's rank", x.cardOf(1, 4, 1), 321);
        write(x, "r;r;r;");
        Check.due("play() of phases", x.play(), 3);
        Check.due("the next phase", x.count(1), 3);
    }

    private static void playingRefused() {
        LockedCarts x = new LockedCarts();
        x.cart(27, 1);
        String[] texts = {"k1,1;k1,1", "k1,1;k64,1;", "x", "r;r;c27,1;c27,1;", "k1,1;p0,0,0,0;"};
        for (String text : texts) {
            write(x, text);
            Check.due("play() of '" + text + "'", x.play(), NOT_POSSIBLE);
        }
    }

    private static void playingTwice() {
        LockedCarts x = new LockedCarts();
        write(x, "c5,1;");
        Check.due("play()", x.play(), 1);
        Check.due("play() once more", x.play(), NOT_POSSIBLE);
        Check.due("the fault then", x.fault(2), NOT_POSSIBLE);
        Check.due("states", x.count(7), 1);
    }

    private static void longTexts() {
        LockedCarts x = new LockedCarts();
        x.cart(0, 1);
        StringBuilder all = new StringBuilder();
        for (int i = 0; i < 30; i++) {
            all.append("r;");
        }
        write(x, all.toString());
        Check.due("length", x.count(8), 60);
        Check.due("play() of 30 phases", x.play(), 30);
        Check.due("phases", x.count(6), 30);
        Check.due("rounds", x.count(2), 6);
        Check.due("undo()", x.undo(), 1);
        Check.due("phases undone", x.count(6), 0);
        x.clearText();
        write(x, all.substring(0, 58) + "r");
        Check.due("one that the end of a text of 59 cuts", x.fault(0), 58);
        Check.due("its cause", x.fault(2), 1);
        write(x, all.substring(0, 58) + "k1,");
        Check.due("one that the end of a full text cuts", x.fault(2), 2);
    }
}
