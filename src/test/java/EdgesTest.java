import java.util.Set;

/** All promises: for each sentence of the document that names a boundary, a test on both sides of it. */
public final class EdgesTest {
    /** FaceTest holds the face; the other one promises nothing. */
    private static final Set<String> SECTIONS_WITHOUT = Set.of("The public face", "Not promised");
    private static final Set<String> NO_BOUNDARY = Set.of(
        "A race of carts by cards that are laid ahead: a board with belts, gears, pits, walls, places of repair and "
            + "flags, carts with five registers, cards with ranks by which they come one after the other, pushing, "
            + "bumping against walls, damage that locks registers so that their cards are repeated, carts that are "
            + "out and come back, belts that carry all carts at once, flags in their order, who comes when, where a "
            + "cart would be, the best card for a register, and orders as texts with places, reasons and causes of "
            + "faults.",
        "what later calls answer is free.",
        "All numbers are whole numbers.",
        "A cart that steps in a direction:",
        "Ahead of the calls `kind`, `wall`, `flag` the interface says: ---- board.",
        "Ahead of the calls `cart`, `card`, `damage` the interface says: ---- carts, cards.",
        "Ahead of the calls `phase`, `round` the interface says: ---- phases.",
        "Ahead of the calls `cellOf`, `cartOf`, `cardOf`, `turn` the interface says: ---- what there is.",
        "Ahead of the calls `would`, `best`, `steps`, `count`, `undo` the interface says: ---- what would be.",
        "Ahead of the calls `type`, `clearText`, `fault`, `play` the interface says: ---- texts.",
        "Sets the kind of a cell.",
        "Returns something of a cell.",
        "Returns something of a cart.",
        "Returns something of a card.",
        "Returns a number.",
        "Returns the number;",
        "Returns the cart;",
        "Returns that;",
        "Appends a character to the text.",
        "Tells about the fault of the text.");

    public static void main(String[] args) {
        all();
        Check.finish();
    }

    static void all() {
        BoardEdges.all();
        CartEdges.all();
        StepEdges.all();
        PhaseEdges.all();
        BeltEdges.all();
        RoundEdges.all();
        AheadEdges.all();
        TextEdges.all();
        ChangeEdges.all();
        Edge.allQuoted(SECTIONS_WITHOUT, NO_BOUNDARY);
    }
}
