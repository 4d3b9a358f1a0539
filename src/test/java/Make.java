/** Makes objects to begin a test with; a card is written as ten times its VALUE and its MARK. */
final class Make {
    private Make() {
    }

    static Rowtricks row0(int... cards) {
        Rowtricks x = new Rowtricks();
        row(x, 0, cards);
        return x;
    }

    static void row(Rowtricks x, int row, int... cards) {
        for (int card : cards) {
            x.add(row, card / 10, card % 10);
        }
    }

    /** Row 0 full: 31 cards 5.5. */
    static Rowtricks full() {
        Rowtricks x = new Rowtricks();
        x.addCopies(0, 31, 5, 5);
        return x;
    }
}
