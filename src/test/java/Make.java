/** Makes objects to begin a test with; a card is written as ten times its VALUE and its MARK. */
final class Make {
    private Make() {
    }

    static Rowtricks row0(int... cards) {
        Rowtricks x = new Rowtricks();
        row(x, 0, cards);
        return x;
    }

    static void row(Rowtricks x, int row, int... cards) {
        for (int card : cards) {
            x.add(row, card / 10, card % 10);
        }
    }

    /** Row 0 full: 31 cards 5.5. */
    static Rowtricks full() {
        Rowtricks x = new Rowtricks();
        x.addCopies(0, 31, 5, 5);
        return x;
    }

    /**
     * Something of each kind. Row 0 is [1.0, 2.1, 2.0, 5.0, 9.9], UP, its walk two steps on; row 1 is
     * [8.0, 3.3, 3.0], DOWN, its walk at the end; row 2 is full, 0.0 to 30.0 with marks 0 to 9 in turn,
     * LOOSE, without a walk; row 3 is empty, DOWN, with a walk. Part 0 is row 0 from 1 to 5, part 1 is
     * part 0 from 1 to 3 ([2.0, 5.0]), part 2 is row 1 from 0 to 2 ([8.0, 3.3]). One knocked twice.
     */
    static Rowtricks rich() {
        Rowtricks x = new Rowtricks();
        row(x, 0, 50, 21, 20, 10, 99);
        x.sort(0, false);
        row(x, 1, 33, 80, 30);
        x.sort(1, true);
        for (int place = 0; place < 31; place++) {
            x.add(2, place, place % 10);
        }
        x.sort(3, true);
        x.part(0, 0, 1, 5);
        x.inner(1, 0, 1, 3);
        x.part(2, 1, 0, 2);
        steps(x, 0, 2);
        steps(x, 1, 3);
        x.walk(3);
        x.knock();
        x.knock();
        return x;
    }

    /** As rich(), but part 2 is GONE. */
    static Rowtricks gone() {
        Rowtricks x = rich();
        x.drop(2);
        return x;
    }

    /** As rich(), but part 2 is the empty one behind all cards of row 0. */
    static Rowtricks hollow() {
        Rowtricks x = rich();
        x.part(2, 0, 5, 5);
        return x;
    }

    /** As rich(), but row 3 is [7.7], so that each row has a place 0. */
    static Rowtricks stocked() {
        Rowtricks x = rich();
        x.add(3, 7, 7);
        return x;
    }

    private static void steps(Rowtricks x, int row, int many) {
        x.walk(row);
        for (int step = 0; step < many; step++) {
            x.step(row);
        }
    }
}
