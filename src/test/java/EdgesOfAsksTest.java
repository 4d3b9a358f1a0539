import java.io.IOException;

/** Promises 17 to 30, sentence by sentence: each edge that the document names. */
public final class EdgesOfAsksTest {
    private static final String NO_ROW = "Throws IndexOutOfBoundsException if there is no such ROW";
    private static final String NO_ROWS = "Throws IndexOutOfBoundsException if there is no such ROW (both)";
    private static final String NO_CARD =
        "Throws IllegalArgumentException if value is not 0 to 99, or mark not 0 to 9";
    private static final String OR_THE_SAME = "- other: a ROW (or the same)";

    public static void main(String[] args) throws IOException {
        Edge.read(new Document(args[0]));
        size();
        text();
        at();
        frequency();
        indexOf();
        disjoint();
        isSame();
        indexOfRow();
        most();
        mostTurned();
        search();
        searchWhereItIsRefused();
        state();
        compare();
        copiesIn();
        copiesInWhereItIsRefused();
        Edge.areWhole(17, 30);
        Check.end();
    }

    private static void size() {
        Edge.promise(17);
        Edge.says("Returns how many cards it has.");
        Edge.tells(0, Make::rich, x -> x.size(3));
        Edge.tells(31, Make::rich, x -> x.size(2));
        Edge.says(NO_ROW);
        Edge.limits(Check.INDEX, Make::rich, 0, 5, 3, 0, (x, row) -> x.size(row));
        Edge.isWhole();
    }

    private static void text() {
        Edge.promise(18);
        Edge.says("Returns it as a text.");
        Edge.tells("[]", Make::rich, x -> x.text(3));
        Edge.tells("[7.7]", Make::stocked, x -> x.text(3));
        Edge.tells("[0.0, 99.9]", () -> Make.row0(0, 999), x -> x.text(0));
        Edge.tells("[0.0, 1.1, 2.2, 3.3, 4.4, 5.5, 6.6, 7.7, 8.8, 9.9, 10.0, 11.1, 12.2, 13.3, 14.4, 15.5, 16.6, 17.7, "
            + "18.8, 19.9, 20.0, 21.1, 22.2, 23.3, 24.4, 25.5, 26.6, 27.7, 28.8, 29.9, 30.0]", Make::rich, x -> x.text(2));
        Edge.says(NO_ROW);
        Edge.limits(Check.INDEX, Make::rich, 0, "[1.0, 2.1, 2.0, 5.0, 9.9]", 3, "[]", (x, row) -> x.text(row));
        Edge.isWhole();
    }

    private static void at() {
        Edge.promise(19);
        Edge.says("Returns that of the card there.");
        Edge.tells("0 0", Make::rich, x -> x.at(2, 0, false) + " " + x.at(2, 0, true));
        Edge.tells("29 9", Make::rich, x -> x.at(2, 29, false) + " " + x.at(2, 29, true));
        Edge.tells("30 0", Make::rich, x -> x.at(2, 30, false) + " " + x.at(2, 30, true));
        Edge.tells("99 9", () -> Make.row0(999), x -> x.at(0, 0, false) + " " + x.at(0, 0, true));
        Edge.says("Throws IndexOutOfBoundsException if there is no such ROW, or no such place in it");
        Edge.limits(Check.INDEX, Make::stocked, 0, 1, 3, 7, (x, row) -> x.at(row, 0, false));
        Edge.limits(Check.INDEX, Make::stocked, 0, 0, 3, 7, (x, row) -> x.at(row, 0, true));
        Edge.limits(Check.INDEX, Make::rich, 0, 1, 4, 9, (x, place) -> x.at(0, place, false));
        Edge.limits(Check.INDEX, Make::rich, 0, 0, 4, 9, (x, place) -> x.at(0, place, true));
        Edge.limits(Check.INDEX, Make::rich, 0, 0, 30, 30, (x, place) -> x.at(2, place, false));
        Edge.refused(Check.INDEX, Make::rich, x -> x.at(3, 0, false));
        Edge.refused(Check.INDEX, Make::rich, x -> x.at(3, 0, true));
        // what stood behind the last card does not stand there any more
        Edge.refused(Check.INDEX, () -> {
            Rowtricks x = Make.rich();
            x.remove(0, 4);
            return x;
        }, x -> x.at(0, 4, false));
        Edge.isWhole();
    }

    private static void frequency() {
        Edge.promise(20);
        Edge.says("Returns how many cards in it are the SAME as that one.");
        Edge.tells(0, Make::rich, x -> x.frequency(3, 0, 0));
        Edge.tells(31, Make::full, x -> x.frequency(0, 5, 5));
        Edge.tells(0, Make::full, x -> x.frequency(0, 5, 4));
        Edge.tells(0, Make::full, x -> x.frequency(0, 4, 5));
        Edge.says(NO_ROW);
        Edge.limits(Check.INDEX, Make::rich, 0, 1, 3, 0, (x, row) -> x.frequency(row, 1, 0));
        Edge.refused(Check.INDEX, Make::rich, x -> x.frequency(4, 100, 10));
        Edge.says(NO_CARD);
        Edge.limits(Check.ARGUMENT, Make::rich, 0, 1, 99, 0, (x, value) -> x.frequency(2, value, 0));
        Edge.limits(Check.ARGUMENT, Make::rich, 0, 0, 9, 1, (x, mark) -> x.frequency(2, 29, mark));
        Edge.tells(1, () -> Make.row0(999), x -> x.frequency(0, 99, 9));
        // neither number stands in for the other one: 0.10 is no 1.0, 2.-1 no 1.9
        Edge.refused(Check.ARGUMENT, () -> Make.row0(10, 19), x -> x.frequency(0, 0, 10));
        Edge.refused(Check.ARGUMENT, () -> Make.row0(10, 19), x -> x.frequency(0, 2, -1));
        Edge.isWhole();
    }

    private static void indexOf() {
        Edge.promise(21);
        Edge.says("Returns the place of a card that is the SAME; NONE without.");
        Edge.tells("0 30", Make::full, x -> x.indexOf(0, 5, 5, false) + " " + x.indexOf(0, 5, 5, true));
        Edge.tells("-1 -1", Make::full, x -> x.indexOf(0, 5, 4, false) + " " + x.indexOf(0, 5, 4, true));
        Edge.tells("-1 -1", Make::rich, x -> x.indexOf(3, 0, 0, false) + " " + x.indexOf(3, 0, 0, true));
        Edge.tells("0 0", Make::rich, x -> x.indexOf(0, 1, 0, false) + " " + x.indexOf(0, 1, 0, true));
        Edge.tells("4 4", Make::rich, x -> x.indexOf(0, 9, 9, false) + " " + x.indexOf(0, 9, 9, true));
        Edge.tells("2 1", Make::rich, x -> x.indexOf(0, 2, 0, false) + " " + x.indexOf(0, 2, 1, true));
        Edge.says(NO_ROW);
        Edge.limits(Check.INDEX, Make::rich, 0, 0, 3, -1, (x, row) -> x.indexOf(row, 1, 0, false));
        Edge.limits(Check.INDEX, Make::rich, 0, 0, 3, -1, (x, row) -> x.indexOf(row, 1, 0, true));
        Edge.refused(Check.INDEX, Make::rich, x -> x.indexOf(4, 100, 10, true));
        Edge.says(NO_CARD);
        Edge.limits(Check.ARGUMENT, Make::rich, 0, 0, 99, -1, (x, value) -> x.indexOf(2, value, 0, false));
        Edge.limits(Check.ARGUMENT, Make::rich, 0, -1, 9, 29, (x, mark) -> x.indexOf(2, 29, mark, false));
        Edge.limits(Check.ARGUMENT, Make::rich, 0, 0, 99, -1, (x, value) -> x.indexOf(2, value, 0, true));
        Edge.limits(Check.ARGUMENT, Make::rich, 0, -1, 9, 29, (x, mark) -> x.indexOf(2, 29, mark, true));
        Edge.isWhole();
    }

    private static void disjoint() {
        Edge.promise(22);
        Edge.says(OR_THE_SAME);
        Edge.tells(false, Make::rich, x -> x.disjoint(0, 0));
        Edge.tells(false, Make::rich, x -> x.disjoint(2, 2));
        Edge.tells(true, Make::rich, x -> x.disjoint(3, 3));
        Edge.says("Returns whether no card of the one is the SAME as one of the other one.");
        Edge.tells("true true", Make::rich, x -> x.disjoint(0, 1) + " " + x.disjoint(1, 0));
        Edge.tells("false false", Make::rich, x -> x.disjoint(0, 2) + " " + x.disjoint(2, 0));
        Edge.tells("true true", Make::rich, x -> x.disjoint(2, 3) + " " + x.disjoint(3, 2));
        Edge.tells("false false", Make::rich, x -> {
            x.add(3, 30, 0);
            return x.disjoint(2, 3) + " " + x.disjoint(3, 2);
        });
        Edge.tells("true true", Make::rich, x -> {
            x.add(3, 30, 1);
            return x.disjoint(2, 3) + " " + x.disjoint(3, 2);
        });
        Edge.says(NO_ROWS);
        Edge.limits(Check.INDEX, Make::rich, 0, false, 3, true, (x, row) -> x.disjoint(row, 0));
        Edge.limits(Check.INDEX, Make::rich, 0, true, 3, true, (x, other) -> x.disjoint(3, other));
        Edge.refused(Check.INDEX, Make::rich, x -> x.disjoint(4, 4));
        Edge.isWhole();
    }

    private static void isSame() {
        Edge.promise(23);
        Edge.says(OR_THE_SAME);
        Edge.tells("true true true", Make::rich, x -> x.isSame(0, 0) + " " + x.isSame(2, 2) + " " + x.isSame(3, 3));
        Edge.says("Returns whether both have as many cards, the SAME in each place.");
        Edge.tells("false false", Make::rich, x -> x.isSame(0, 3) + " " + x.isSame(3, 0));
        Edge.tells("true true", Rowtricks::new, x -> x.isSame(0, 3) + " " + x.isSame(3, 0));
        Edge.tells("true false false", Make::rich, x -> {
            boolean isCopy = x.copy(0, 2) == 31 && x.isSame(0, 2);
            x.set(0, 30, 30, 1);
            boolean isLastOther = x.isSame(0, 2);
            x.remove(0, 30);
            return isCopy + " " + isLastOther + " " + x.isSame(0, 2);
        });
        Edge.says(NO_ROWS);
        Edge.limits(Check.INDEX, Make::rich, 0, true, 3, false, (x, row) -> x.isSame(row, 0));
        Edge.limits(Check.INDEX, Make::rich, 0, false, 3, true, (x, other) -> x.isSame(3, other));
        Edge.refused(Check.INDEX, Make::rich, x -> x.isSame(4, 4));
        Edge.isWhole();
    }

    private static void indexOfRow() {
        Edge.promise(24);
        Edge.says(OR_THE_SAME);
        Edge.tells("0 0 0", Make::rich, x -> x.indexOfRow(0, 0) + " " + x.indexOfRow(2, 2) + " " + x.indexOfRow(3, 3));
        Edge.says("Returns the first place from which on the other one stands in it; NONE without.");
        Edge.tells("0 0 0", Make::rich, x -> x.indexOfRow(0, 3) + " " + x.indexOfRow(1, 3) + " " + x.indexOfRow(2, 3));
        Edge.tells("-1 -1", Make::rich, x -> x.indexOfRow(3, 0) + " " + x.indexOfRow(3, 2));
        Edge.tells("-1 -1", Make::rich, x -> x.indexOfRow(0, 1) + " " + x.indexOfRow(0, 2));
        Edge.tells("29 -1", Make::rich, x -> {
            x.addTwo(3, 29, 9, 30, 0);
            int atTheEnd = x.indexOfRow(2, 3);
            x.add(3, 31, 1);
            return atTheEnd + " " + x.indexOfRow(2, 3);
        });
        Edge.tells("0 -1", Make::full, x -> {
            x.addCopies(1, 31, 5, 5);
            int whole = x.indexOfRow(0, 1);
            x.remove(0, 0);
            return whole + " " + x.indexOfRow(0, 1);
        });
        Edge.says(NO_ROWS);
        Edge.limits(Check.INDEX, Make::rich, 0, 0, 3, -1, (x, row) -> x.indexOfRow(row, 0));
        Edge.limits(Check.INDEX, Make::rich, 0, 0, 3, 0, (x, other) -> x.indexOfRow(0, other));
        Edge.refused(Check.INDEX, Make::rich, x -> x.indexOfRow(4, 4));
        Edge.isWhole();
    }

    private static void most() {
        Edge.promise(25);
        Edge.says("Returns that; -9 without cards.");
        Edge.refused(-9, Make::rich, x -> x.most(3, true));
        Edge.refused(-9, Make::rich, x -> x.most(3, false));
        Edge.tells("7 7", Make::stocked, x -> x.most(3, true) + " " + x.most(3, false));
        Edge.tells("0 30", Make::rich, x -> x.most(2, true) + " " + x.most(2, false));
        Edge.tells("0 99", () -> Make.row0(999, 9), x -> x.most(0, true) + " " + x.most(0, false));
        Edge.says(NO_ROW);
        Edge.limits(Check.INDEX, Make::rich, 0, 9, 3, -9, (x, row) -> x.most(row, false));
        Edge.limits(Check.INDEX, Make::rich, 0, 1, 3, -9, (x, row) -> x.most(row, true));
        Edge.isWhole();
    }

    private static void mostTurned() {
        Edge.promise(26);
        Edge.says("Returns its VALUE; -9 without cards.");
        Edge.refused(-9, Make::rich, x -> x.mostTurned(3, true));
        Edge.refused(-9, Make::rich, x -> x.mostTurned(3, false));
        Edge.tells("7 7", Make::stocked, x -> x.mostTurned(3, true) + " " + x.mostTurned(3, false));
        Edge.tells("30 0", Make::rich, x -> x.mostTurned(2, true) + " " + x.mostTurned(2, false));
        Edge.tells("99 0", () -> Make.row0(999, 9), x -> x.mostTurned(0, true) + " " + x.mostTurned(0, false));
        Edge.says(NO_ROW);
        Edge.limits(Check.INDEX, Make::rich, 0, 1, 3, -9, (x, row) -> x.mostTurned(row, false));
        Edge.limits(Check.INDEX, Make::rich, 0, 9, 3, -9, (x, row) -> x.mostTurned(row, true));
        Edge.isWhole();
    }

    private static void search() {
        Edge.promise(27);
        Edge.says("Returns 1 if a card with that VALUE is there; otherwise -1 less the place where one could be put in "
            + "between, so that it would be SORTED still.");
        // UP: 1, 2, 2, 5, 9
        int[] up = {-1, 1, 1, -4, -4, 1, -5, -5, -5, 1, -6};
        for (int value = 0; value < up.length; value++) {
            int sought = value;
            Edge.tells(up[value], Make::rich, x -> x.search(0, sought));
        }
        // DOWN: 8, 3, 3
        int[] down = {-4, -4, -4, 1, -2, -2, -2, -2, 1, -1, -1};
        for (int value = 0; value < down.length; value++) {
            int sought = value;
            Edge.tells(down[value], Make::rich, x -> x.search(1, sought));
        }
        Edge.tells("-1 -1", Make::rich, x -> x.search(3, 0) + " " + x.search(3, 99));
        Edge.tells("-1 1 -32", Make::full, x -> {
            x.sort(0, false);
            return x.search(0, 4) + " " + x.search(0, 5) + " " + x.search(0, 6);
        });
        Edge.tells("-32 1 -1", Make::full, x -> {
            x.sort(0, true);
            return x.search(0, 4) + " " + x.search(0, 5) + " " + x.search(0, 6);
        });
    }

    private static void searchWhereItIsRefused() {
        Edge.says(NO_ROW);
        Edge.limits(Check.INDEX, Make::rich, 0, 1, 3, -1, (x, row) -> x.search(row, 1));
        Edge.refused(Check.INDEX, Make::rich, x -> x.search(4, 100));
        Edge.says("Throws IllegalArgumentException if value is not 0 to 99");
        Edge.limits(Check.ARGUMENT, Make::rich, 0, -1, 99, -6, (x, value) -> x.search(0, value));
        Edge.beyond(Check.ARGUMENT, Make::rich, 0, 99, (x, value) -> x.search(2, value));
        Edge.says("Throws IllegalStateException if the ROW is LOOSE");
        Edge.refused(Check.STATE, Make::rich, x -> x.search(2, 5));
        Edge.refused(Check.STATE, Make::rich, x -> x.search(2, 99));
        Edge.refused(Check.STATE, Rowtricks::new, x -> x.search(0, 5));
        Edge.isWhole();
    }

    private static void state() {
        Edge.promise(28);
        Edge.says("Returns STATE: 0 LOOSE, 1 UP, 2 DOWN.");
        Edge.tells("1 2 0 2", Make::rich, x -> x.state(0) + " " + x.state(1) + " " + x.state(2) + " " + x.state(3));
        Edge.says(NO_ROW);
        Edge.limits(Check.INDEX, Make::rich, 0, 1, 3, 2, (x, row) -> x.state(row));
        Edge.isWhole();
    }

    private static void compare() {
        Edge.promise(29);
        Edge.says("Returns -1, 0 or 1, as by the order that is turned round the first one is less than, like, or greater "
            + "than the other one.");
        Edge.tells("-1 0 1", Make::rich, x -> x.compare(51, 50) + " " + x.compare(50, 50) + " " + x.compare(50, 51));
        Edge.tells("0 1 -1 0", Make::rich,
            x -> x.compare(0, 0) + " " + x.compare(0, 99) + " " + x.compare(99, 0) + " " + x.compare(99, 99));
        Edge.says("Throws IllegalArgumentException if one is not 0 to 99");
        Edge.limits(Check.ARGUMENT, Make::rich, 0, 1, 99, -1, (x, value) -> x.compare(value, 50));
        Edge.limits(Check.ARGUMENT, Make::rich, 0, -1, 99, 1, (x, other) -> x.compare(50, other));
        Edge.beyond(Check.ARGUMENT, Make::rich, 0, 99, (x, both) -> x.compare(both, both));
        Edge.isWhole();
    }

    private static void copiesIn() {
        Edge.promise(30);
        Edge.says("Returns the first place from which on so many of that card, as a row of their own, stand in the ROW; "
            + "NONE without.");
        Edge.tells("0 0 0", Make::rich,
            x -> x.copiesIn(0, 77, 7, 0) + " " + x.copiesIn(0, 77, 7, 2) + " " + x.copiesIn(0, 77, 7, 3));
        Edge.tells("0 -1", Make::rich, x -> x.copiesIn(1, 1, 0, 0) + " " + x.copiesIn(2, 1, 0, 0));
        Edge.tells("30 -1", Make::rich, x -> x.copiesIn(1, 30, 0, 2) + " " + x.copiesIn(2, 30, 0, 2));
        Edge.tells("-1 -1", Make::rich, x -> x.copiesIn(1, 0, 0, 3) + " " + x.copiesIn(31, 0, 0, 3));
        Edge.tells("-1 -1", Make::full, x -> x.copiesIn(1, 5, 4, 0) + " " + x.copiesIn(1, 4, 5, 0));
        Edge.tells("0 0 0", Make::full,
            x -> x.copiesIn(1, 5, 5, 0) + " " + x.copiesIn(30, 5, 5, 0) + " " + x.copiesIn(31, 5, 5, 0));
        Edge.tells("1 -1", Make::full, x -> {
            x.set(0, 0, 5, 4);
            return x.copiesIn(30, 5, 5, 0) + " " + x.copiesIn(31, 5, 5, 0);
        });
        Edge.tells("3 -1", () -> Make.row0(55, 55, 54, 55, 55, 55),
            x -> x.copiesIn(3, 5, 5, 0) + " " + x.copiesIn(4, 5, 5, 0));
    }

    private static void copiesInWhereItIsRefused() {
        Edge.says(NO_ROW);
        Edge.limits(Check.INDEX, Make::rich, 0, 0, 3, -1, (x, row) -> x.copiesIn(1, 1, 0, row));
        Edge.refused(Check.INDEX, Make::rich, x -> x.copiesIn(32, 100, 10, 4));
        Edge.says("Throws IllegalArgumentException if many is not 0 to 31, value not 0 to 99, or mark not 0 to 9");
        Edge.limits(Check.ARGUMENT, Make::full, 0, 0, 31, 0, (x, many) -> x.copiesIn(many, 5, 5, 0));
        Edge.limits(Check.ARGUMENT, Make::rich, 0, 0, 31, -1, (x, many) -> x.copiesIn(many, 5, 5, 3));
        Edge.limits(Check.ARGUMENT, Make::rich, 0, 0, 99, -1, (x, value) -> x.copiesIn(1, value, 0, 2));
        Edge.limits(Check.ARGUMENT, Make::rich, 0, -1, 9, 29, (x, mark) -> x.copiesIn(1, 29, mark, 2));
        Edge.beyond(Check.ARGUMENT, Make::rich, 0, 99, (x, value) -> x.copiesIn(0, value, 0, 3));
        Edge.beyond(Check.ARGUMENT, Make::rich, 0, 9, (x, mark) -> x.copiesIn(0, 1, mark, 3));
        Edge.isWhole();
    }
}
