/** What the tests of edges share: where they tell their answers, the ends of int, and the objects that calls are refused by. */
abstract class EdgesOf {
    static final int MIN = Integer.MIN_VALUE;
    static final int MAX = Integer.MAX_VALUE;
    static final Made.State FRESH = Made.State.FRESH;
    static final Made.State SOME = Made.State.SOME;
    static final Made.State FULL = Made.State.FULL;
    static final int[] NO_SHELF = {-1, 6, MIN, MAX};
    static final int[] NO_T = {-1, 1000, MIN, MAX};
    /** None of SOME, which has three children and four sponsors. */
    static final int[] NO_CHILD = {-1, 3, 6, MIN, MAX};
    static final int[] NO_SPONSOR = {-1, 4, 16, MIN, MAX};

    final Edges edges;

    EdgesOf(Edges edges) {
        this.edges = edges;
    }

    abstract void all();
}
