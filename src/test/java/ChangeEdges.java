import java.util.function.Supplier;

/** Edges of the section 'Changes and errors' and of the promises 17 and 18: count, undo. */
final class ChangeEdges {
    private static final int INVALID = LockedCarts.INVALID_ARGUMENT;
    private static final int NOT_POSSIBLE = LockedCarts.NOT_POSSIBLE;
    private static final int LIMIT = LockedCarts.LIMIT_REACHED;
    private static final int NOT_FOUND = LockedCarts.NOT_FOUND;
    static final int CHANGES = 9;
    /** What the bad changes answer, the last one a play() of the faulty text. */
    private static final int[] ERRORS = {NOT_POSSIBLE, INVALID, NOT_POSSIBLE, NOT_POSSIBLE, INVALID, INVALID,
        NOT_POSSIBLE};
    private static final String GOOD = "k1,1;";
    private static final String FAULTY = "k5,5;w5,1;c20,0;r;x";

    private ChangeEdges() {
    }

    static void all() {
        nineChanges();
        noChanges();
        fourStates();
        oldestDropped();
        everythingBefore();
        allButTheText();
        invalidArgumentFirst();
        notPossibleFirst();
        noSuchCart();
        errorsChangeNothing();
        count();
        countOfOut();
        countOfTheFirst();
        countOfPushes();
        undo();
    }

    /** Two carts, two states. */
    private static LockedCarts some(String text) {
        LockedCarts x = Races.of(27, 1, 9, 0);
        Races.write(x, text);
        return x;
    }

    /** Behind two phases: the cart 0 is out, 1 has touched both flags, 2 was pushed twice and stopped once. */
    private static LockedCarts busy(String text) {
        LockedCarts x = Races.of(0, 0, 9, 1, 10, 1);
        x.flag(0, 11);
        x.flag(1, 11);
        x.kind(20, 6);
        x.wall(20, 2);
        x.damage(1, 6);
        x.card(0, 1, 0, 9);
        x.card(1, 0, 1, 8);
        x.card(2, 1, 2, 7);
        x.wall(12, 1);
        Races.phases(x, 2);
        Races.write(x, text);
        return x;
    }

    /** One of the nine changes, of a race with two carts at least. */
    static int change(LockedCarts x, int which) {
        switch (which) {
            case 0:
                return x.kind(5, 5);
            case 1:
                return x.wall(5, 1);
            case 2:
                return x.flag(0, 5);
            case 3:
                return x.cart(5, 0);
            case 4:
                return x.card(1, 2, 0, 5);
            case 5:
                return x.damage(1, 1);
            case 6:
                return x.phase();
            case 7:
                return x.round();
            default:
                return x.play();
        }
    }

    private static int badChange(LockedCarts x, int which) {
        switch (which) {
            case 0:
                return x.kind(x.cartOf(1, 0), 7);
            case 1:
                return x.wall(0, 4);
            case 2:
                return x.flag(3, 5);
            case 3:
                return x.cart(x.cartOf(1, 0), 0);
            case 4:
                return x.card(1, 2, 7, 5);
            case 5:
                return x.damage(1, 10);
            default:
                return x.play();
        }
    }

    private static void nineChanges() {
        Edge.of(18, "Changes and errors", "The changes are the calls of kind, wall, flag, cart, card, damage, phase, "
            + "round and play that return no error.");
        for (int which = 0; which < CHANGES; which++) {
            LockedCarts x = some(GOOD);
            Edge.due("the change " + which, Math.min(change(x, which), 0), 0);
            Edge.due("states behind the change " + which, x.count(7), 3);
        }
        for (int which = 0; which < ERRORS.length; which++) {
            LockedCarts x = some(FAULTY);
            Edge.due("the bad change " + which, badChange(x, which), ERRORS[which]);
            Edge.due("states behind the bad change " + which, x.count(7), 2);
        }
        LockedCarts none = new LockedCarts();
        Edge.due("phase() without carts", none.phase(), NOT_POSSIBLE);
        Edge.due("round() without carts", none.round(), NOT_POSSIBLE);
        Edge.due("states behind them", none.count(7), 0);
    }

    private static void noChanges() {
        Edge.of(18, "Changes and errors", "round and play that return no error.");
        LockedCarts x = busy(GOOD);
        readAll(x, 2);
        Check.same("all behind calls that are no changes", Snapshot.whole(x), Snapshot.whole(busy(GOOD)));
        LockedCarts y = some(GOOD);
        y.flag(0, 63);
        readAll(y, 1);
        y.type('r');
        y.clearText();
        Edge.due("states behind calls that are none", y.count(7), 3);
        Edge.due("undo()", y.undo(), 2);
        Edge.due("flags then", y.count(3), 0);
    }

    /** The calls that only read. */
    private static void readAll(LockedCarts x, int cart) {
        x.cellOf(0, 0);
        x.cartOf(cart, 0);
        x.cardOf(cart, 0, 0);
        x.turn(0);
        x.would(cart, 20, 0);
        Edge.due("best() of one that has a flag", Math.min(0, x.best(cart, 1, 0)), 0);
        x.steps(0, 63);
        x.count(7);
        x.fault(0);
    }

    private static LockedCarts changed(int howOften) {
        LockedCarts x = new LockedCarts();
        for (int i = 1; i <= howOften; i++) {
            x.kind(i, 5);
        }
        return x;
    }

    private static void fourStates() {
        Edge.of(18, "Changes and errors", "A history of at most 4 states is kept: ");
        int[] due = {0, 1, 2, 3, 4, 4, 4, 4, 4, 4};
        for (int changes = 0; changes < due.length; changes++) {
            Edge.due("states behind " + changes, changed(changes).count(7), due[changes]);
            LockedCarts x = changed(changes);
            for (int undone = 1; undone <= due[changes]; undone++) {
                Edge.due("undo() number " + undone + " behind " + changes, x.undo(), due[changes] - undone);
            }
            Edge.due("undo() of no state behind " + changes, x.undo(), NOT_POSSIBLE);
        }
    }

    private static void oldestDropped() {
        Edge.of(18, "Changes and errors", "and if there are 5 states then, the oldest one is dropped.");
        for (int changes = 1; changes <= 9; changes++) {
            LockedCarts x = changed(changes);
            while (x.undo() >= 0) {
                // Each undo takes one of at most four states.
            }
            int left = Math.max(0, changes - 4);
            for (int cell = 1; cell <= changes; cell++) {
                Edge.due("kind of " + cell + " behind " + changes, x.cellOf(cell, 0), cell <= left ? 5 : 0);
            }
        }
        LockedCarts x = changed(6);
        x.undo();
        x.undo();
        x.kind(20, 6);
        x.kind(21, 6);
        x.kind(22, 6);
        Edge.due("states behind more changes", x.count(7), 4);
        for (int cell = 22; cell >= 20; cell--) {
            Edge.due("the kind ahead of undo()", x.cellOf(cell, 0), 6);
            x.undo();
            Edge.due("the kind behind undo()", x.cellOf(cell, 0), 0);
        }
        Edge.due("undo() of the last state", x.undo(), 0);
        Edge.due("the kind of 4, undone", x.cellOf(4, 0), 0);
        Edge.due("the kind of 3, kept", x.cellOf(3, 0), 5);
        Edge.due("undo() of one that was dropped", x.undo(), NOT_POSSIBLE);
    }

    private static void everythingBefore() {
        Edge.of(18, "Changes and errors", "each change records everything before it but the text, ");
        for (int which = 0; which < CHANGES; which++) {
            LockedCarts x = busy(GOOD);
            change(x, which);
            Edge.due("undo() of the change " + which, x.undo(), 3);
            Check.same("all behind undo() of the change " + which, Snapshot.race(x), Snapshot.race(busy(GOOD)));
        }
    }

    private static void allButTheText() {
        Edge.of(18, "Changes and errors", "everything before it but the text, ");
        LockedCarts x = new LockedCarts();
        x.type('k');
        x.kind(0, 1);
        x.type('1');
        Edge.due("undo()", x.undo(), 0);
        Edge.due("the length stays", x.count(8), 2);
        Edge.due("where it breaks off", x.fault(2), 2);
        x.kind(0, 1);
        x.clearText();
        x.undo();
        Edge.due("the length stays 0", x.count(8), 0);
    }

    private static void invalidArgumentFirst() {
        Edge.of(17, "Changes and errors", "If several errors apply to a call, "
            + "INVALID_ARGUMENT is returned rather than NOT_POSSIBLE, ");
        Edge.due("flag, no lower one", new LockedCarts().flag(1, 64), INVALID);
        Edge.due("cart upon a cart", Races.of(27, 1).cart(27, 4), INVALID);
        Edge.due("cart upon a cart, of four", Races.of(0, 0, 1, 0, 2, 0, 3, 0).cart(3, -1), INVALID);
        Edge.due("card, out", Races.withOneOut().card(0, 0, 7, 1), INVALID);
        Edge.due("card, out, its rank", Races.withOneOut().card(0, 0, 0, 1000), INVALID);
        Edge.due("card, below the next phase", Races.withOneOut().card(1, 0, -1, 1), INVALID);
        LockedCarts locked = Races.of(27, 1);
        locked.damage(0, 9);
        Edge.due("card, locked", locked.card(0, 4, 0, 0), INVALID);
        Edge.due("damage, out", Races.withOneOut().damage(0, 10), INVALID);
        Edge.due("best, out", Races.withOneOut().best(0, 0, 0), INVALID);
        Edge.due("best, locked, no flag", locked.best(0, 1000, 0), INVALID);
        Edge.due("best, no flag", Races.of(27, 1).best(0, 1, 2), INVALID);
        Edge.of(17, "Changes and errors", "and LIMIT_REACHED rather than NOT_FOUND.");
        // No call answers both; those that answer INVALID_ARGUMENT and one of them:
        LockedCarts full = new LockedCarts();
        for (int i = 0; i < 60; i++) {
            full.type('r');
        }
        Edge.due("type, full", full.type(127), INVALID);
        Edge.due("type, full, of 31", full.type(31), INVALID);
        Edge.due("type, full, of 32", full.type(32), LIMIT);
        Edge.due("cellOf, no cart", new LockedCarts().cellOf(64, 2), INVALID);
        Edge.due("cartOf, out", Races.withOneOut().cartOf(0, -1), INVALID);
        Edge.due("cardOf, empty", Races.of(27, 1).cardOf(0, 0, 2), INVALID);
        Edge.due("turn, none", new LockedCarts().turn(-1), INVALID);
        Edge.due("would, out", Races.withOneOut().would(0, 21, 0), INVALID);
        Edge.due("fault, none", new LockedCarts().fault(3), INVALID);
    }

    private static void notPossibleFirst() {
        Edge.of(5, "Changes and errors", "NOT_POSSIBLE rather than LIMIT_REACHED, ");
        Supplier<LockedCarts> four = () -> {
            LockedCarts x = Races.of(0, 0, 1, 0, 2, 0, 3, 0);
            x.kind(9, 7);
            return x;
        };
        Edge.due("a fifth cart upon the fourth", four.get().cart(3, 0), NOT_POSSIBLE);
        Edge.due("a fifth cart upon a pit", four.get().cart(9, 0), NOT_POSSIBLE);
        Edge.due("a fifth cart beside them", four.get().cart(8, 0), LIMIT);
        LockedCarts doomed = Races.of(0, 0);
        doomed.kind(0, 1);
        doomed.kind(8, 7);
        Edge.due("best, no flag, out by each move", doomed.best(0, 1, 0), NOT_POSSIBLE);
        doomed.flag(0, 63);
        Edge.due("best, out by each move", doomed.best(0, 1, 0), NOT_FOUND);
        doomed.damage(0, 9);
        Edge.due("best, locked, out by each move", doomed.best(0, 1, 0), NOT_POSSIBLE);
    }

    private static void noSuchCart() {
        Edge.of(11, "Changes and errors", "If there is no cart with a certain number, this is INVALID_ARGUMENT.");
        for (int carts = 0; carts <= 4; carts++) {
            LockedCarts x = new LockedCarts();
            for (int n = 0; n < carts; n++) {
                x.cart(9 * n, 1);
            }
            x.flag(0, 63);
            for (int n = -1; n <= 4; n++) {
                int error = n >= 0 && n < carts ? 0 : INVALID;
                String what = " of " + n + " of " + carts;
                Edge.due("cartOf" + what, Math.min(0, x.cartOf(n, 0)), error);
                Edge.due("would" + what, Math.min(0, x.would(n, 0, 0)), error);
                Edge.due("best" + what, Math.min(0, x.best(n, 1, 0)), error);
                Edge.due("damage" + what, Math.min(0, x.damage(n, 0)), error);
                Edge.due("cardOf" + what, x.cardOf(n, 0, 0), error == 0 ? NOT_FOUND : INVALID);
                Edge.due("card" + what, Math.min(0, x.card(n, 0, 0, 1)), error);
            }
        }
    }

    private static void errorsChangeNothing() {
        Edge.of(18, "Changes and errors", "A call that returns an error changes nothing.");
        for (int which = 0; which < ERRORS.length; which++) {
            int bad = which;
            Edge.refused(() -> busy(FAULTY), "the bad change " + which, x -> badChange(x, bad), ERRORS[which]);
        }
        for (int which = 0; which < ERRORS.length; which++) {
            for (int undone = 1; undone <= 4; undone += 3) {
                LockedCarts x = busy(FAULTY);
                badChange(x, which);
                LockedCarts same = busy(FAULTY);
                for (int i = 0; i < undone; i++) {
                    x.undo();
                    same.undo();
                }
                Check.same("the state " + undone + " ago behind the bad change " + which, Snapshot.whole(x),
                    Snapshot.whole(same));
            }
        }
        Edge.refused(() -> busy(GOOD), "a card of one that is out", x -> x.card(0, 4, 0, 5), NOT_POSSIBLE);
        Edge.refused(() -> busy(GOOD), "a card into a locked register", x -> x.card(1, 3, 0, 5), NOT_POSSIBLE);
        Edge.refused(() -> busy(GOOD), "damage of one that is out", x -> x.damage(0, 1), NOT_POSSIBLE);
        Edge.refused(() -> busy(GOOD), "best() of one that has no flag", x -> x.best(1, 1, 0), NOT_POSSIBLE);
        Edge.refused(() -> busy(GOOD), "would() of one that is out", x -> x.would(0, 2, 0), NOT_FOUND);
    }

    private static void count() {
        Supplier<LockedCarts> busy = () -> busy(GOOD);
        Edge.range(17, "- `what`: 0: carts; 1: the next phase; 2: rounds that have ended; 3: flags; "
            + "4: carts that are out; 5: the cart that was the first to have touched as many flags as there were then, "
            + "one or more (of several in one phase the lowest), NOT_FOUND if there was none; 6: phases so far; "
            + "7: states in the history; 8: the length of the text; "
            + "9: carts that were pushed so far (each step of each one)", 0, 9, busy, LockedCarts::count);
        int[] due = {3, 2, 0, 2, 1, 1, 2, 4, 5, 2};
        int[] roundLater = {3, 2, 1, 2, 0, 1, 7, 4, 5, 2};
        LockedCarts later = Races.behind(busy(GOOD), 5);
        for (int what = 0; what < due.length; what++) {
            Edge.due("count(" + what + ")", busy(GOOD).count(what), due[what]);
            Edge.due("count(" + what + ") a round later", later.count(what), roundLater[what]);
        }
    }

    private static void countOfOut() {
        Edge.of(17, "4: carts that are out; ");
        LockedCarts x = Races.of(0, 0, 1, 0, 2, 0, 3, 0);
        for (int n = 0; n < 4; n++) {
            x.card(n, 3 - n, 0, 1);
        }
        for (int phases = 0; phases <= 5; phases++) {
            Edge.due("behind " + phases, x.count(4), phases % 5);
            Edge.due("carts", x.count(0), 4);
            x.phase();
        }
    }

    private static void countOfTheFirst() {
        Edge.of(17, "5: the cart that was the first to have touched as many flags as there were then, "
            + "one or more (of several in one phase the lowest), NOT_FOUND if there was none; ");
        LockedCarts none = Races.behind(Races.of(27, 1), 1);
        Edge.due("with no flags, none touched", none.count(5), NOT_FOUND);
        for (int flags = 1; flags <= 4; flags++) {
            LockedCarts x = Races.of(9, 1, 27, 1);
            for (int flag = 0; flag < flags; flag++) {
                x.flag(flag, 27);
            }
            for (int phases = 0; phases <= flags; phases++) {
                Edge.due("with " + phases + " of " + flags, x.count(5), phases == flags ? 1 : NOT_FOUND);
                x.phase();
            }
        }
        // As many as there were then: it stays the first, with more flags and when others have all of them.
        LockedCarts x = Races.of(9, 1, 27, 1);
        x.flag(0, 27);
        x.phase();
        x.flag(1, 9);
        x.flag(0, 9);
        Edge.due("with a flag more", x.count(5), 1);
        Races.phases(x, 2);
        Edge.due("flags of the lower one", x.cartOf(0, 3), 2);
        Edge.due("with a lower one that has them all later", x.count(5), 1);
        // Not the first that has touched one of two.
        LockedCarts y = Races.of(9, 1, 27, 1);
        y.flag(0, 9);
        y.flag(1, 27);
        y.phase();
        y.flag(0, 27);
        y.phase();
        Edge.due("with one each", y.count(5), NOT_FOUND);
        y.phase();
        Edge.due("with two of two", y.count(5), 1);
        y.undo();
        Edge.due("undone", y.count(5), NOT_FOUND);
    }

    private static void countOfPushes() {
        Edge.of(17, "9: carts that were pushed so far (each step of each one)");
        for (int pushed = 0; pushed <= 3; pushed++) {
            for (int move = 0; move <= 2; move++) {
                LockedCarts x = Races.moving(24, 1, move);
                for (int n = 1; n <= pushed; n++) {
                    x.cart(24 + n, 0);
                }
                x.phase();
                Edge.due(pushed + " pushed by the move " + move, x.count(9), pushed * (move + 1));
                LockedCarts y = Races.moving(24, 1, move);
                for (int n = 1; n <= pushed; n++) {
                    y.cart(24 + n, 0);
                }
                y.wall(24 + pushed + 1, 1);
                y.phase();
                Edge.due(pushed + " pushed once, then stopped", y.count(9), pushed);
            }
        }
        LockedCarts out = Races.of(30, 1, 31, 1);
        out.card(0, 0, 0, 1);
        out.phase();
        Edge.due("one pushed out", out.count(9), 1);
        LockedCarts belts = Races.of(24, 1, 25, 1);
        belts.kind(24, 2);
        belts.kind(25, 2);
        belts.phase();
        Edge.due("carried by belts", belts.count(9), 0);
    }

    private static void undo() {
        Edge.of(18, "`int undo()`: Restores the latest state of the history, which is removed from it.");
        LockedCarts x = new LockedCarts();
        for (int kind = 1; kind <= 4; kind++) {
            x.kind(0, kind);
        }
        Edge.of(18, "Returns the number of states that are left in the history; ");
        for (int left = 3; left >= 0; left--) {
            Edge.due("undo()", x.undo(), left);
            Edge.due("the kind", x.cellOf(0, 0), left);
            Edge.due("states", x.count(7), left);
        }
        Edge.of(18, "NOT_POSSIBLE if it is empty.");
        Edge.due("undo() of none", x.undo(), NOT_POSSIBLE);
        Edge.refused(LockedCarts::new, "undo() of a new object", LockedCarts::undo, NOT_POSSIBLE);
        Edge.due("undo() of one", changed(1).undo(), 0);
        LockedCarts carts = Races.of(27, 1);
        carts.card(0, 0, 6, 9);
        carts.undo();
        Edge.due("undo() of the cart", carts.undo(), 0);
        Edge.due("carts", carts.count(0), 0);
        Edge.due("the next one", carts.cart(9, 3), 0);
        Edge.due("its cards", carts.cartOf(0, 6), 0);
        Edge.due("its cell", carts.cartOf(0, 0), 9);
    }
}
