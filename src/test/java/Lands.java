/** Texts that several tests tell. */
final class Lands {
    /** A ring of four, each LANE 1 long, SPADES 2, 3, 4, 5. */
    static final String RING = "n4;l0 1 1 2;l1 2 1 3;l2 3 1 4;l3 0 1 5;";
    /** A triangle, each LANE 1 long, SPADES 1. */
    static final String THREE = "n3;l0 1 1 1;l1 2 1 1;l0 2 1 1;";
    /** Five PLACES one behind another. */
    static final String CHAIN = "n5;l0 1 1 1;l1 2 2 1;l2 3 3 1;l3 4 4 1;";
    /** Three WAYS of two LANES between PLACES 0 and 4. */
    static final String SIX = "n5;l0 1 1 1;l0 2 1 1;l0 3 1 1;l4 1 1 1;l4 2 1 1;l4 3 1 1;";
    /** Two triangles, which share PLACE 2. */
    static final String TWO = "n5;l0 1 1 1;l1 2 1 1;l0 2 1 1;l2 3 1 1;l3 4 1 1;l2 4 1 1;";
    /** Four PLACES, a LANE between any two. */
    static final String ALL = "n4;l2 3 1 1;l1 3 1 1;l0 3 1 1;l0 1 1 1;l0 2 1 1;l1 2 1 1;";

    private Lands() { }
}
