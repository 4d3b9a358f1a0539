import java.io.IOException;

/** Promises 1 to 16, sentence by sentence: each edge that the document names. */
public final class EdgesOfRowsTest {
    private static final String NO_ROW = "Throws IndexOutOfBoundsException if there is no such ROW";
    private static final String NO_ROWS = "Throws IndexOutOfBoundsException if there is no such ROW (both)";
    private static final String NO_PLACE =
        "Throws IndexOutOfBoundsException if there is no such ROW, or no such place in it";
    private static final String NO_CARD =
        "Throws IllegalArgumentException if value is not 0 to 99, or mark not 0 to 9";
    private static final String NO_CARDS =
        "Throws IllegalArgumentException if a value is not 0 to 99, or a mark not 0 to 9";
    private static final String THE_SAME = "Throws IllegalArgumentException if both are the same";
    private static final String TOO_MANY = "Throws IllegalStateException if there were more than 31 then";
    private static final String HOW_MANY = "Returns how many there are then.";
    private static final String FIRST_OR_NONE = "Returns the VALUE of its first card then; NONE without cards.";

    public static void main(String[] args) throws IOException {
        Edge.read(new Document(args[0]));
        newObject();
        add();
        insert();
        insertWhereItIsRefused();
        remove();
        set();
        clear();
        addTwo();
        addTwoWhereItIsRefused();
        addCopies();
        addCopiesWhereItIsRefused();
        append();
        appendWhereItIsRefused();
        copy();
        fill();
        replace();
        reverse();
        rotate();
        swap();
        sort();
        Edge.areWhole(1, 16);
        Check.end();
    }

    private static void newObject() {
        Edge.promise(1);
        Edge.says("Creates four empty rows.");
        Edge.limits(Check.INDEX, Rowtricks::new, 0, 0, 3, 0, (x, row) -> x.size(row));
        Edge.limits(Check.INDEX, Rowtricks::new, 0, "[]", 3, "[]", (x, row) -> x.text(row));
        Edge.tells("0 0 0 0", Rowtricks::new, x -> x.house(0) + " " + x.house(1) + " " + x.house(2) + " " + x.house(3));
        Edge.isWhole();
    }

    private static void add() {
        Edge.promise(2);
        Edge.says(HOW_MANY);
        Edge.tells("1 [0.0]", Make::rich, x -> x.add(3, 0, 0) + " " + x.text(3));
        Edge.tells("31 [30.0, 9.9]", Make::rich, x -> {
            x.remove(2, 29);
            int many = x.add(2, 9, 9);
            x.part(0, 2, 29, 31);
            return many + " " + x.textIn(0);
        });
        Edge.says(NO_ROW);
        Edge.limits(Check.INDEX, Make::rich, 0, 6, 3, 1, (x, row) -> x.add(row, 1, 1));
        Edge.refused(Check.INDEX, Make::rich, x -> x.add(4, 100, 10));
        Edge.says(NO_CARD);
        Edge.limits(Check.ARGUMENT, Make::rich, 0, "1[0.1]", 99, "1[99.1]", (x, value) -> x.add(3, value, 1) + x.text(3));
        Edge.limits(Check.ARGUMENT, Make::rich, 0, "1[1.0]", 9, "1[1.9]", (x, mark) -> x.add(3, 1, mark) + x.text(3));
        Edge.beyond(Check.ARGUMENT, Make::rich, 0, 99, (x, value) -> x.add(2, value, 1));
        Edge.beyond(Check.ARGUMENT, Make::rich, 0, 9, (x, mark) -> x.add(2, 1, mark));
        Edge.says("Throws IllegalStateException if there are 31");
        Edge.refused(Check.STATE, Make::rich, x -> x.add(2, 1, 1));
        Edge.isWhole();
    }

    private static void insert() {
        Edge.promise(3);
        Edge.says("- place: its place (how many there are: behind all)");
        Edge.tells("6[1.0, 2.1, 2.0, 5.0, 9.9, 7.7]", Make::rich, x -> x.insert(0, 5, 7, 7) + x.text(0));
        Edge.tells("6[7.7, 1.0, 2.1, 2.0, 5.0, 9.9]", Make::rich, x -> x.insert(0, 0, 7, 7) + x.text(0));
        Edge.tells("6[1.0, 2.1, 2.0, 5.0, 7.7, 9.9]", Make::rich, x -> x.insert(0, 4, 7, 7) + x.text(0));
        Edge.tells("1[7.7]", Make::rich, x -> x.insert(3, 0, 7, 7) + x.text(3));
        Edge.says(HOW_MANY);
        Edge.tells("31[28.8, 7.7, 29.9, 30.0]", Make::rich, x -> {
            x.remove(2, 0);
            int many = x.insert(2, 28, 7, 7);
            x.part(0, 2, 27, 31);
            return many + x.textIn(0);
        });
    }

    private static void insertWhereItIsRefused() {
        Edge.says("Throws IndexOutOfBoundsException if there is no such ROW, or place is not 0 to how many there are");
        Edge.limits(Check.INDEX, Make::rich, 0, 6, 3, 1, (x, row) -> x.insert(row, 0, 1, 1));
        Edge.limits(Check.INDEX, Make::rich, 0, 6, 5, 6, (x, place) -> x.insert(0, place, 1, 1));
        Edge.limits(Check.INDEX, Make::rich, 0, 1, 0, 1, (x, place) -> x.insert(3, place, 1, 1));
        Edge.beyond(Check.INDEX, Make::rich, 0, 31, (x, place) -> x.insert(2, place, 100, 10));
        Edge.says(NO_CARD);
        Edge.limits(Check.ARGUMENT, Make::rich, 0, "1[0.1]", 99, "1[99.1]",
            (x, value) -> x.insert(3, 0, value, 1) + x.text(3));
        Edge.limits(Check.ARGUMENT, Make::rich, 0, "1[1.0]", 9, "1[1.9]",
            (x, mark) -> x.insert(3, 0, 1, mark) + x.text(3));
        Edge.beyond(Check.ARGUMENT, Make::rich, 0, 99, (x, value) -> x.insert(2, 0, value, 1));
        Edge.beyond(Check.ARGUMENT, Make::rich, 0, 9, (x, mark) -> x.insert(2, 31, 1, mark));
        Edge.says("Throws IllegalStateException if there are 31");
        Edge.refused(Check.STATE, Make::rich, x -> x.insert(2, 0, 1, 1));
        Edge.refused(Check.STATE, Make::rich, x -> x.insert(2, 30, 1, 1));
        Edge.refused(Check.STATE, Make::rich, x -> x.insert(2, 31, 1, 1));
        Edge.isWhole();
    }

    private static void remove() {
        Edge.promise(4);
        Edge.says("Returns its VALUE.");
        Edge.tells("1[2.1, 2.0, 5.0, 9.9]", Make::rich, x -> x.remove(0, 0) + x.text(0));
        Edge.tells("9[1.0, 2.1, 2.0, 5.0]", Make::rich, x -> x.remove(0, 4) + x.text(0));
        Edge.tells("30 30 29", Make::rich, x -> x.remove(2, 30) + " " + x.size(2) + " " + x.at(2, 29, false));
        Edge.tells("0 30 1 30", Make::rich,
            x -> x.remove(2, 0) + " " + x.size(2) + " " + x.at(2, 0, false) + " " + x.at(2, 29, false));
        Edge.says(NO_PLACE);
        Edge.limits(Check.INDEX, Make::stocked, 0, 1, 3, 7, (x, row) -> x.remove(row, 0));
        Edge.limits(Check.INDEX, Make::rich, 0, 1, 4, 9, (x, place) -> x.remove(0, place));
        Edge.limits(Check.INDEX, Make::rich, 0, 0, 30, 30, (x, place) -> x.remove(2, place));
        Edge.refused(Check.INDEX, Make::rich, x -> x.remove(3, 0));
        Edge.isWhole();
    }

    private static void set() {
        Edge.promise(5);
        Edge.says("Returns the VALUE of the one before.");
        Edge.tells("1[7.7, 2.1, 2.0, 5.0, 9.9]", Make::rich, x -> x.set(0, 0, 7, 7) + x.text(0));
        Edge.tells("9[1.0, 2.1, 2.0, 5.0, 7.7]", Make::rich, x -> x.set(0, 4, 7, 7) + x.text(0));
        Edge.says(NO_PLACE);
        Edge.limits(Check.INDEX, Make::stocked, 0, 1, 3, 7, (x, row) -> x.set(row, 0, 1, 1));
        Edge.limits(Check.INDEX, Make::rich, 0, 1, 4, 9, (x, place) -> x.set(0, place, 1, 1));
        Edge.limits(Check.INDEX, Make::rich, 0, 0, 30, 30, (x, place) -> x.set(2, place, 1, 1));
        Edge.refused(Check.INDEX, Make::rich, x -> x.set(3, 0, 1, 1));
        Edge.refused(Check.INDEX, Make::rich, x -> x.set(0, 5, 100, 10));
        Edge.says(NO_CARD);
        Edge.limits(Check.ARGUMENT, Make::rich, 0, "3[8.0, 3.3, 0.1]", 99, "3[8.0, 3.3, 99.1]",
            (x, value) -> x.set(1, 2, value, 1) + x.text(1));
        Edge.limits(Check.ARGUMENT, Make::rich, 0, "8[1.0, 3.3, 3.0]", 9, "8[1.9, 3.3, 3.0]",
            (x, mark) -> x.set(1, 0, 1, mark) + x.text(1));
        Edge.isWhole();
    }

    private static void clear() {
        Edge.promise(6);
        Edge.says("Returns how many there were.");
        Edge.tells("5[]", Make::rich, x -> x.clear(0) + x.text(0));
        Edge.tells("31[]", Make::rich, x -> x.clear(2) + x.text(2));
        Edge.tells("0[]", Make::rich, x -> x.clear(3) + x.text(3));
        Edge.says(NO_ROW);
        Edge.limits(Check.INDEX, Make::rich, 0, 5, 3, 0, (x, row) -> x.clear(row));
        Edge.isWhole();
    }

    private static void addTwo() {
        Edge.promise(7);
        Edge.says(HOW_MANY);
        Edge.tells("2[1.2, 3.4]", Make::rich, x -> x.addTwo(3, 1, 2, 3, 4) + x.text(3));
        Edge.says(NO_ROW);
        Edge.limits(Check.INDEX, Make::rich, 0, 7, 3, 2, (x, row) -> x.addTwo(row, 1, 1, 2, 2));
        Edge.refused(Check.INDEX, Make::rich, x -> x.addTwo(4, 100, 10, 100, 10));
        Edge.says(NO_CARDS);
        Edge.limits(Check.ARGUMENT, Make::rich, 0, "2[0.1, 2.2]", 99, "2[99.1, 2.2]",
            (x, value) -> x.addTwo(3, value, 1, 2, 2) + x.text(3));
        Edge.limits(Check.ARGUMENT, Make::rich, 0, "2[1.0, 2.2]", 9, "2[1.9, 2.2]",
            (x, mark) -> x.addTwo(3, 1, mark, 2, 2) + x.text(3));
        Edge.limits(Check.ARGUMENT, Make::rich, 0, "2[1.1, 0.2]", 99, "2[1.1, 99.2]",
            (x, value2) -> x.addTwo(3, 1, 1, value2, 2) + x.text(3));
        Edge.limits(Check.ARGUMENT, Make::rich, 0, "2[1.1, 2.0]", 9, "2[1.1, 2.9]",
            (x, mark2) -> x.addTwo(3, 1, 1, 2, mark2) + x.text(3));
    }

    /** Row 2 with one card less, so that one more could be put in, but not two. */
    private static Rowtricks nearlyFull() {
        Rowtricks x = Make.rich();
        x.remove(2, 30);
        x.part(2, 2, 29, 30);
        x.walk(2);
        return x;
    }

    private static void addTwoWhereItIsRefused() {
        Edge.beyond(Check.ARGUMENT, Make::rich, 0, 99, (x, value) -> x.addTwo(2, value, 1, 2, 2));
        Edge.beyond(Check.ARGUMENT, Make::rich, 0, 9, (x, mark2) -> x.addTwo(2, 1, 1, 2, mark2));
        Edge.says(TOO_MANY);
        Edge.refused(Check.STATE, Make::rich, x -> x.addTwo(2, 1, 1, 2, 2));
        Edge.refused(Check.STATE, EdgesOfRowsTest::nearlyFull, x -> x.addTwo(2, 1, 1, 2, 2));
        Edge.tells("31 1 2", EdgesOfRowsTest::nearlyFull, x -> {
            x.remove(2, 0);
            return x.addTwo(2, 1, 1, 2, 2) + " " + x.at(2, 29, false) + " " + x.at(2, 30, false);
        });
        Edge.isWhole();
    }

    private static void addCopies() {
        Edge.promise(8);
        Edge.says("- many: how often (0 to 31)");
        Edge.tells("0[]", Make::rich, x -> x.addCopies(3, 0, 1, 2) + x.text(3));
        Edge.tells("1[1.2]", Make::rich, x -> x.addCopies(3, 1, 1, 2) + x.text(3));
        Edge.tells("31 31", Make::rich, x -> x.addCopies(3, 31, 1, 2) + " " + x.frequency(3, 1, 2));
        Edge.says(HOW_MANY);
        Edge.tells("8[1.0, 2.1, 2.0, 5.0, 9.9, 1.2, 1.2, 1.2]", Make::rich, x -> x.addCopies(0, 3, 1, 2) + x.text(0));
        Edge.tells(5, Make::rich, x -> x.addCopies(0, 0, 1, 2));
        Edge.tells(31, Make::rich, x -> x.addCopies(2, 0, 1, 2));
        Edge.says(NO_ROW);
        Edge.limits(Check.INDEX, Make::rich, 0, 6, 3, 1, (x, row) -> x.addCopies(row, 1, 1, 1));
        Edge.refused(Check.INDEX, Make::rich, x -> x.addCopies(-1, 32, 100, 10));
    }

    private static void addCopiesWhereItIsRefused() {
        Edge.says("Throws IllegalArgumentException if many is not 0 to 31, value not 0 to 99, or mark not 0 to 9");
        Edge.limits(Check.ARGUMENT, Make::rich, 0, 0, 31, 31, (x, many) -> x.addCopies(3, many, 1, 1));
        Edge.beyond(Check.ARGUMENT, Make::rich, 0, 31, (x, many) -> x.addCopies(2, many, 1, 1));
        Edge.limits(Check.ARGUMENT, Make::rich, 0, "1[0.1]", 99, "1[99.1]",
            (x, value) -> x.addCopies(3, 1, value, 1) + x.text(3));
        Edge.limits(Check.ARGUMENT, Make::rich, 0, "1[1.0]", 9, "1[1.9]",
            (x, mark) -> x.addCopies(3, 1, 1, mark) + x.text(3));
        Edge.beyond(Check.ARGUMENT, Make::rich, 0, 99, (x, value) -> x.addCopies(2, 0, value, 1));
        Edge.beyond(Check.ARGUMENT, Make::rich, 0, 9, (x, mark) -> x.addCopies(2, 31, 1, mark));
        Edge.says(TOO_MANY);
        Edge.refused(Check.STATE, Make::rich, x -> x.addCopies(2, 1, 1, 1));
        Edge.refused(Check.STATE, Make::rich, x -> x.addCopies(2, 31, 1, 1));
        Edge.tells(31, Make::rich, x -> x.addCopies(0, 26, 1, 1));
        Edge.refused(Check.STATE, Make::rich, x -> x.addCopies(0, 27, 1, 1));
        Edge.isWhole();
    }

    private static void append() {
        Edge.promise(9);
        Edge.says(HOW_MANY);
        Edge.tells("8[1.0, 2.1, 2.0, 5.0, 9.9, 8.0, 3.3, 3.0][8.0, 3.3, 3.0]", Make::rich,
            x -> x.append(0, 1) + x.text(0) + x.text(1));
        Edge.tells("5[1.0, 2.1, 2.0, 5.0, 9.9]", Make::rich, x -> x.append(0, 3) + x.text(0));
        Edge.tells(31, Make::rich, x -> x.append(2, 3));
        Edge.tells("31 true", Make::rich, x -> x.append(3, 2) + " " + x.isSame(3, 2));
        Edge.says(NO_ROWS);
        Edge.limits(Check.INDEX, Make::rich, 0, 8, 3, 3, (x, row) -> x.append(row, 1));
        Edge.limits(Check.INDEX, Make::rich, 0, 8, 3, 3, (x, other) -> x.append(1, other));
        Edge.refused(Check.INDEX, Make::rich, x -> x.append(4, 4));
        Edge.refused(Check.INDEX, Make::rich, x -> x.append(-1, -1));
    }

    private static void appendWhereItIsRefused() {
        Edge.says(THE_SAME);
        Edge.refused(Check.ARGUMENT, Make::rich, x -> x.append(0, 0));
        Edge.refused(Check.ARGUMENT, Make::rich, x -> x.append(3, 3));
        Edge.refused(Check.ARGUMENT, Make::rich, x -> x.append(2, 2));
        Edge.says(TOO_MANY);
        Edge.refused(Check.STATE, Make::rich, x -> x.append(2, 0));
        Edge.refused(Check.STATE, Make::rich, x -> x.append(0, 2));
        // 3 and 28 are just enough, 3 and 29 one too many
        Edge.tells(31, Make::rich, x -> {
            x.clear(2);
            x.addCopies(2, 28, 1, 1);
            return x.append(1, 2);
        });
        Edge.refused(Check.STATE, () -> {
            Rowtricks x = Make.rich();
            x.clear(2);
            x.addCopies(2, 29, 1, 1);
            return x;
        }, x -> x.append(1, 2));
        Edge.isWhole();
    }

    private static void copy() {
        Edge.promise(10);
        Edge.says(HOW_MANY);
        Edge.tells("3[8.0, 3.3, 3.0]", Make::rich, x -> x.copy(0, 1) + x.text(0));
        Edge.tells("5[1.0, 2.1, 2.0, 5.0, 9.9]", Make::rich, x -> x.copy(2, 0) + x.text(2));
        Edge.tells("0[]", Make::rich, x -> x.copy(2, 3) + x.text(2));
        Edge.tells("31 true", Make::rich, x -> x.copy(3, 2) + " " + x.isSame(3, 2));
        Edge.says(NO_ROWS);
        Edge.limits(Check.INDEX, Make::rich, 0, 3, 3, 3, (x, row) -> x.copy(row, 1));
        Edge.limits(Check.INDEX, Make::rich, 0, 5, 3, 0, (x, other) -> x.copy(1, other));
        Edge.refused(Check.INDEX, Make::rich, x -> x.copy(4, 4));
        Edge.refused(Check.INDEX, Make::rich, x -> x.copy(-1, -1));
        Edge.says(THE_SAME);
        Edge.refused(Check.ARGUMENT, Make::rich, x -> x.copy(0, 0));
        Edge.refused(Check.ARGUMENT, Make::rich, x -> x.copy(3, 3));
        Edge.isWhole();
    }

    private static void fill() {
        Edge.promise(11);
        Edge.says("Returns how many there are.");
        Edge.tells("3[7.7, 7.7, 7.7]", Make::rich, x -> x.fill(1, 7, 7) + x.text(1));
        Edge.tells("31 31", Make::rich, x -> x.fill(2, 7, 7) + " " + x.frequency(2, 7, 7));
        Edge.tells("0[]", Make::rich, x -> x.fill(3, 7, 7) + x.text(3));
        Edge.says(NO_ROW);
        Edge.limits(Check.INDEX, Make::rich, 0, 5, 3, 0, (x, row) -> x.fill(row, 1, 1));
        Edge.refused(Check.INDEX, Make::rich, x -> x.fill(4, 100, 10));
        Edge.says(NO_CARD);
        Edge.limits(Check.ARGUMENT, Make::rich, 0, "3[0.1, 0.1, 0.1]", 99, "3[99.1, 99.1, 99.1]",
            (x, value) -> x.fill(1, value, 1) + x.text(1));
        Edge.limits(Check.ARGUMENT, Make::rich, 0, "3[1.0, 1.0, 1.0]", 9, "3[1.9, 1.9, 1.9]",
            (x, mark) -> x.fill(1, 1, mark) + x.text(1));
        Edge.beyond(Check.ARGUMENT, Make::rich, 0, 99, (x, value) -> x.fill(3, value, 1));
        Edge.beyond(Check.ARGUMENT, Make::rich, 0, 9, (x, mark) -> x.fill(3, 1, mark));
        Edge.isWhole();
    }

    private static void replace() {
        Edge.promise(12);
        Edge.says("Returns whether there was such a card.");
        Edge.tells("true[7.7, 2.1, 2.0, 5.0, 9.9]", Make::rich, x -> x.replace(0, 1, 0, 7, 7) + x.text(0));
        Edge.tells("true[1.0, 2.1, 2.0, 5.0, 0.0]", Make::rich, x -> x.replace(0, 9, 9, 0, 0) + x.text(0));
        Edge.tells("true[1.0, 2.1, 2.0, 5.0, 9.9]", Make::rich, x -> x.replace(0, 2, 1, 2, 1) + x.text(0));
        Edge.tells("false[1.0, 2.1, 2.0, 5.0, 9.9]", Make::rich, x -> x.replace(0, 9, 8, 7, 7) + x.text(0));
        Edge.tells("false[]", Make::rich, x -> x.replace(3, 0, 0, 7, 7) + x.text(3));
        Edge.says(NO_ROW);
        Edge.limits(Check.INDEX, Make::rich, 0, false, 3, false, (x, row) -> x.replace(row, 9, 0, 2, 2));
        Edge.refused(Check.INDEX, Make::rich, x -> x.replace(-1, 100, 10, 100, 10));
        Edge.says(NO_CARDS);
        Edge.limits(Check.ARGUMENT, Make::rich, 0, true, 99, false, (x, value) -> x.replace(2, value, 0, 2, 2));
        Edge.limits(Check.ARGUMENT, Make::rich, 0, false, 9, true, (x, mark) -> x.replace(2, 29, mark, 2, 2));
        Edge.limits(Check.ARGUMENT, Make::rich, 0, "true[0.2, 3.3, 3.0]", 99, "true[99.2, 3.3, 3.0]",
            (x, value2) -> x.replace(1, 8, 0, value2, 2) + x.text(1));
        Edge.limits(Check.ARGUMENT, Make::rich, 0, "true[2.0, 3.3, 3.0]", 9, "true[2.9, 3.3, 3.0]",
            (x, mark2) -> x.replace(1, 8, 0, 2, mark2) + x.text(1));
        Edge.beyond(Check.ARGUMENT, Make::rich, 0, 99, (x, value2) -> x.replace(3, 9, 8, value2, 2));
        Edge.beyond(Check.ARGUMENT, Make::rich, 0, 9, (x, mark2) -> x.replace(3, 9, 8, 2, mark2));
        Edge.isWhole();
    }

    private static void reverse() {
        Edge.promise(13);
        Edge.says(FIRST_OR_NONE);
        Edge.tells("9[9.9, 5.0, 2.0, 2.1, 1.0]", Make::rich, x -> x.reverse(0) + x.text(0));
        Edge.tells("30 15 0", Make::rich, x -> x.reverse(2) + " " + x.at(2, 15, false) + " " + x.at(2, 30, false));
        Edge.tells("-1[]", Make::rich, x -> x.reverse(3) + x.text(3));
        Edge.tells("7[7.7]", Make::rich, x -> {
            x.add(3, 7, 7);
            return x.reverse(3) + x.text(3);
        });
        Edge.says(NO_ROW);
        Edge.limits(Check.INDEX, Make::rich, 0, 9, 3, -1, (x, row) -> x.reverse(row));
        Edge.isWhole();
    }

    private static void rotate() {
        Edge.promise(14);
        Edge.says(FIRST_OR_NONE);
        for (int by : new int[] {0, 3, -3, 300, Integer.MAX_VALUE - 1, Integer.MIN_VALUE + 2}) {
            Edge.tells("8[8.0, 3.3, 3.0]", Make::rich, x -> x.rotate(1, by) + x.text(1));
        }
        for (int by : new int[] {1, 4, -2, -5, Integer.MAX_VALUE, Integer.MIN_VALUE}) {
            Edge.tells("3[3.0, 8.0, 3.3]", Make::rich, x -> x.rotate(1, by) + x.text(1));
        }
        for (int by : new int[] {2, 5, -1, -4, Integer.MAX_VALUE - 2, Integer.MIN_VALUE + 1}) {
            Edge.tells("3[3.3, 3.0, 8.0]", Make::rich, x -> x.rotate(1, by) + x.text(1));
        }
        // 2 to the power of 31 is 2 more than a multiple of 31, so that the greatest int is 1 more
        Edge.tells("30 29", Make::rich, x -> x.rotate(2, Integer.MAX_VALUE) + " " + x.at(2, 30, false));
        Edge.tells("2 1", Make::rich, x -> x.rotate(2, Integer.MIN_VALUE) + " " + x.at(2, 30, false));
        for (int by : new int[] {0, 1, -1, 31, Integer.MAX_VALUE, Integer.MIN_VALUE}) {
            Edge.tells("-1[]", Make::rich, x -> x.rotate(3, by) + x.text(3));
            Edge.tells("7[7.7]", () -> Make.row0(77), x -> x.rotate(0, by) + x.text(0));
        }
        Edge.says(NO_ROW);
        Edge.limits(Check.INDEX, Make::rich, 0, 9, 3, -1, (x, row) -> x.rotate(row, 1));
        Edge.isWhole();
    }

    private static void swap() {
        Edge.promise(15);
        Edge.says("- b: a place (or the same)");
        Edge.tells("1[1.0, 2.1, 2.0, 5.0, 9.9]", Make::rich, x -> x.swap(0, 0, 0) + x.text(0));
        Edge.tells("9[1.0, 2.1, 2.0, 5.0, 9.9]", Make::rich, x -> x.swap(0, 4, 4) + x.text(0));
        Edge.says("Returns the VALUE of the one that stands in the place a then.");
        Edge.tells("9[9.9, 2.1, 2.0, 5.0, 1.0]", Make::rich, x -> x.swap(0, 0, 4) + x.text(0));
        Edge.tells("1[9.9, 2.1, 2.0, 5.0, 1.0]", Make::rich, x -> x.swap(0, 4, 0) + x.text(0));
        Edge.says("Throws IndexOutOfBoundsException if there is no such ROW, or no such place in it (both)");
        Edge.limits(Check.INDEX, Make::stocked, 0, 1, 3, 7, (x, row) -> x.swap(row, 0, 0));
        Edge.limits(Check.INDEX, Make::rich, 0, 5, 4, 5, (x, a) -> x.swap(0, a, 3));
        Edge.limits(Check.INDEX, Make::rich, 0, 1, 4, 9, (x, b) -> x.swap(0, 3, b));
        Edge.limits(Check.INDEX, Make::rich, 0, 0, 30, 0, (x, a) -> x.swap(2, a, 0));
        Edge.limits(Check.INDEX, Make::rich, 0, 0, 30, 30, (x, b) -> x.swap(2, 0, b));
        Edge.refused(Check.INDEX, Make::rich, x -> x.swap(3, 0, 0));
        Edge.isWhole();
    }

    private static void sort() {
        Edge.promise(16);
        Edge.says(FIRST_OR_NONE);
        Edge.tells("3[3.3, 3.0, 8.0]1", Make::rich, x -> x.sort(1, false) + x.text(1) + x.state(1));
        Edge.tells("8[8.0, 3.3, 3.0]2", Make::rich, x -> x.sort(1, true) + x.text(1) + x.state(1));
        Edge.tells("9[9.9, 5.0, 2.1, 2.0, 1.0]2", Make::rich, x -> x.sort(0, true) + x.text(0) + x.state(0));
        Edge.tells("30 0 2", Make::rich, x -> x.sort(2, true) + " " + x.at(2, 30, false) + " " + x.state(2));
        Edge.tells("0 30 1", Make::rich, x -> x.sort(2, false) + " " + x.at(2, 30, false) + " " + x.state(2));
        Edge.tells("-1[]1", Make::rich, x -> x.sort(3, false) + x.text(3) + x.state(3));
        Edge.tells("-1[]2", Make::rich, x -> x.sort(3, true) + x.text(3) + x.state(3));
        Edge.says(NO_ROW);
        Edge.limits(Check.INDEX, Make::rich, 0, 1, 3, -1, (x, row) -> x.sort(row, false));
        Edge.beyond(Check.INDEX, Make::rich, 0, 3, (x, row) -> x.sort(row, true));
        Edge.isWhole();
    }
}
