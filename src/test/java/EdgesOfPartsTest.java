import java.io.IOException;

/** Promises 31 to 42, sentence by sentence: each edge that the document names. */
public final class EdgesOfPartsTest {
    private static final String NO_PART = "Throws IndexOutOfBoundsException if part is not 0 to 2";
    private static final String IS_GONE = "Throws IllegalStateException if it is GONE";
    private static final String WITHOUT_IT = "- to: up to this one (without it)";
    private static final String HOW_MANY = "Returns how many cards it has.";
    private static final String FIRST_OR_NONE = "Returns the VALUE of its first card then; NONE without cards.";

    public static void main(String[] args) throws IOException {
        Edge.read(new Document(args[0]));
        part();
        partWhereItIsRefused();
        inner();
        innerWhereItIsRefused();
        innerOfOneWithinIt();
        drop();
        cut();
        setIn();
        setInWhereItIsRefused();
        reverseIn();
        rotateIn();
        swapIn();
        swapInWhereItIsRefused();
        sortIn();
        textIn();
        sizeIn();
        indexOfIn();
        Edge.areWhole(31, 42);
        Check.end();
    }

    /** As rich(), but part 2 lies within part 1, which lies within part 0. */
    private static Rowtricks deep() {
        Rowtricks x = Make.rich();
        x.inner(2, 1, 1, 2);
        return x;
    }

    private static String texts(Rowtricks x) {
        return x.textIn(0) + x.textIn(1) + x.textIn(2);
    }

    private static void part() {
        Edge.promise(31);
        Edge.says(WITHOUT_IT);
        Edge.tells("3[2.1, 2.0, 5.0]", Make::rich, x -> x.part(2, 0, 1, 4) + x.textIn(2));
        Edge.tells("1[9.9]", Make::rich, x -> x.part(2, 0, 4, 5) + x.textIn(2));
        Edge.says(HOW_MANY);
        Edge.tells("0[]", Make::rich, x -> x.part(2, 0, 0, 0) + x.textIn(2));
        Edge.tells("0[]", Make::rich, x -> x.part(2, 0, 5, 5) + x.textIn(2));
        Edge.tells("0[]", Make::rich, x -> x.part(2, 3, 0, 0) + x.textIn(2));
        Edge.tells("5[1.0, 2.1, 2.0, 5.0, 9.9]", Make::rich, x -> x.part(2, 0, 0, 5) + x.textIn(2));
        Edge.tells("31 true", Make::rich, x -> x.part(2, 2, 0, 31) + " " + x.textIn(2).equals(x.text(2)));
    }

    private static void partWhereItIsRefused() {
        Edge.says("Throws IndexOutOfBoundsException if part is not 0 to 2, there is no such ROW, or from is below 0, "
            + "to above how many the ROW has, or from above to");
        Edge.limits(Check.INDEX, Make::rich, 0, 1, 2, 1, (x, part) -> x.part(part, 0, 0, 1));
        Edge.limits(Check.INDEX, Make::rich, 0, 0, 3, 0, (x, row) -> x.part(2, row, 0, 0));
        Edge.limits(Check.INDEX, Make::rich, 0, 3, 3, 0, (x, from) -> x.part(0, 0, from, 3));
        Edge.limits(Check.INDEX, Make::rich, 2, 0, 5, 3, (x, to) -> x.part(0, 0, 2, to));
        Edge.limits(Check.INDEX, Make::rich, 0, 31, 31, 0, (x, from) -> x.part(2, 2, from, 31));
        Edge.limits(Check.INDEX, Make::rich, 0, 0, 31, 31, (x, to) -> x.part(2, 2, 0, to));
        Edge.beyond(Check.INDEX, Make::rich, 0, 0, (x, to) -> x.part(2, 3, 0, to));
        Edge.beyond(Check.INDEX, Make::rich, 0, 5, (x, both) -> x.part(1, 0, both, both));
        Edge.refused(Check.INDEX, Make::rich, x -> x.part(2, 3, 0, 1));
        Edge.refused(Check.INDEX, Make::rich, x -> x.part(2, 0, Integer.MIN_VALUE, Integer.MAX_VALUE));
        Edge.refused(Check.INDEX, Make::rich, x -> x.part(2, 0, Integer.MAX_VALUE, Integer.MIN_VALUE));
        Edge.isWhole();
    }

    private static void inner() {
        Edge.promise(32);
        Edge.says(WITHOUT_IT);
        Edge.tells("2[2.1, 2.0]", Make::rich, x -> x.inner(2, 0, 0, 2) + x.textIn(2));
        Edge.tells("1[5.0]", Make::rich, x -> x.inner(2, 1, 1, 2) + x.textIn(2));
        Edge.says(HOW_MANY);
        Edge.tells("0[]", Make::rich, x -> x.inner(2, 0, 0, 0) + x.textIn(2));
        Edge.tells("0[]", Make::rich, x -> x.inner(2, 0, 4, 4) + x.textIn(2));
        Edge.tells("4[2.1, 2.0, 5.0, 9.9]", Make::rich, x -> x.inner(2, 0, 0, 4) + x.textIn(2));
        Edge.tells("0[]", Make::hollow, x -> x.inner(1, 2, 0, 0) + x.textIn(1));
        Edge.tells("31 true", Make::rich, x -> {
            x.part(2, 2, 0, 31);
            return x.inner(1, 2, 0, 31) + " " + x.textIn(1).equals(x.text(2));
        });
    }

    private static void innerWhereItIsRefused() {
        Edge.says("Throws IndexOutOfBoundsException if part or whole is not 0 to 2");
        Edge.tells(1, Make::rich, x -> x.inner(0, 2, 0, 1));
        Edge.tells(1, Make::rich, x -> x.inner(2, 0, 0, 1));
        Edge.beyond(Check.INDEX, Make::rich, 0, 2, (x, part) -> x.inner(part, 1, 0, 0));
        Edge.beyond(Check.INDEX, Make::rich, 0, 2, (x, whole) -> x.inner(2, whole, 0, 0));
        Edge.beyond(Check.INDEX, Make::rich, 0, 2, (x, both) -> x.inner(both, both, -1, -1));
        Edge.says("Throws IllegalArgumentException if both are the same");
        Edge.refused(Check.ARGUMENT, Make::rich, x -> x.inner(0, 0, 0, 0));
        Edge.refused(Check.ARGUMENT, Make::rich, x -> x.inner(1, 1, 0, 9));
        Edge.refused(Check.ARGUMENT, Make::gone, x -> x.inner(2, 2, 0, 0));
    }

    private static void innerOfOneWithinIt() {
        Edge.says("Throws IllegalStateException if the WHOLE is GONE, or is a PART of the other one (or of a PART of it, "
            + "and so on), or from is below 0, to above how many it has, or from above to");
        Edge.refused(Check.STATE, Make::gone, x -> x.inner(0, 2, 0, 0));
        Edge.refused(Check.STATE, Rowtricks::new, x -> x.inner(0, 1, 0, 0));
        Edge.refused(Check.STATE, Make::rich, x -> x.inner(0, 1, 0, 0));
        Edge.refused(Check.STATE, EdgesOfPartsTest::deep, x -> x.inner(0, 1, 0, 0));
        Edge.refused(Check.STATE, EdgesOfPartsTest::deep, x -> x.inner(0, 2, 0, 0));
        Edge.refused(Check.STATE, EdgesOfPartsTest::deep, x -> x.inner(1, 2, 0, 0));
        Edge.tells("1[2.1, 2.0, 5.0, 9.9][2.0, 5.0][9.9]", EdgesOfPartsTest::deep, x -> x.inner(2, 0, 3, 4) + texts(x));
        Edge.tells("1[2.1, 2.0, 5.0, 9.9][9.9]-", EdgesOfPartsTest::deep, x -> x.inner(1, 0, 3, 4) + texts(x));
        // as part 1 is laid of a row, it is within part 0 no more
        Edge.tells("1[8.0][8.0, 3.3][8.0, 3.3]", Make::rich, x -> {
            x.part(1, 1, 0, 2);
            return x.inner(0, 1, 0, 1) + texts(x);
        });
        Edge.limits(Check.STATE, Make::rich, 0, 2, 2, 0, (x, from) -> x.inner(2, 1, from, 2));
        Edge.limits(Check.STATE, Make::rich, 1, 0, 4, 3, (x, to) -> x.inner(2, 0, 1, to));
        Edge.limits(Check.STATE, Make::rich, 0, 0, 2, 2, (x, to) -> x.inner(2, 1, 0, to));
        Edge.limits(Check.STATE, Make::hollow, 0, 0, 0, 0, (x, to) -> x.inner(1, 2, 0, to));
        Edge.beyond(Check.STATE, Make::rich, 0, 2, (x, both) -> x.inner(2, 1, both, both));
        Edge.refused(Check.STATE, Make::rich, x -> x.inner(2, 1, Integer.MIN_VALUE, Integer.MAX_VALUE));
        Edge.refused(Check.STATE, Make::rich, x -> x.inner(2, 1, Integer.MAX_VALUE, Integer.MIN_VALUE));
        Edge.isWhole();
    }

    private static void drop() {
        Edge.promise(33);
        Edge.says("Returns 1 if it was there, otherwise 0.");
        Edge.tells("1 0", Make::rich, x -> x.drop(2) + " " + x.drop(2));
        Edge.tells("1[2.1, 2.0, 5.0, 9.9][2.0, 5.0]-", Make::hollow, x -> x.drop(2) + texts(x));
        Edge.tells("0 0", Rowtricks::new, x -> x.drop(0) + " " + x.drop(2));
        Edge.tells("1 0 0", EdgesOfPartsTest::deep, x -> x.drop(0) + " " + x.drop(1) + " " + x.drop(2));
        Edge.tells("1 0 1", EdgesOfPartsTest::deep, x -> x.drop(1) + " " + x.drop(2) + " " + x.drop(0));
        Edge.refused(0, Make::gone, x -> x.drop(2));
        Edge.says(NO_PART);
        Edge.limits(Check.INDEX, Make::rich, 0, 1, 2, 1, (x, part) -> x.drop(part));
        Edge.isWhole();
    }

    private static void cut() {
        Edge.promise(34);
        Edge.says("Returns how many there were.");
        Edge.tells("4[1.0]", Make::rich, x -> x.cut(0) + x.text(0));
        Edge.tells("2[1.0, 2.1, 9.9]", Make::rich, x -> x.cut(1) + x.text(0));
        Edge.tells("1[1.0, 2.1, 2.0, 9.9]", EdgesOfPartsTest::deep, x -> x.cut(2) + x.text(0));
        Edge.tells("2[3.0]", Make::rich, x -> x.cut(2) + x.text(1));
        Edge.tells("0[1.0, 2.1, 2.0, 5.0, 9.9]", Make::hollow, x -> x.cut(2) + x.text(0));
        Edge.tells("2 0", Make::rich, x -> x.cut(1) + " " + x.cut(1));
        Edge.tells("31[][]", Make::rich, x -> {
            x.part(2, 2, 0, 31);
            return x.cut(2) + x.text(2) + x.textIn(2);
        });
        Edge.says(NO_PART);
        Edge.limits(Check.INDEX, Make::rich, 0, 4, 2, 2, (x, part) -> x.cut(part));
        Edge.beyond(Check.INDEX, Rowtricks::new, 0, 2, (x, part) -> x.cut(part));
        Edge.says(IS_GONE);
        Edge.refused(Check.STATE, Make::gone, x -> x.cut(2));
        Edge.refused(Check.STATE, Rowtricks::new, x -> x.cut(0));
        Edge.isWhole();
    }

    private static void setIn() {
        Edge.promise(35);
        Edge.says("Returns the VALUE of the one before; -9, if there is no such place.");
        Edge.tells("2[1.0, 7.7, 2.0, 5.0, 9.9]", Make::rich, x -> x.setIn(0, 0, 7, 7) + x.text(0));
        Edge.tells("9[1.0, 2.1, 2.0, 5.0, 7.7]", Make::rich, x -> x.setIn(0, 3, 7, 7) + x.text(0));
        Edge.tells("5[1.0, 2.1, 2.0, 7.7, 9.9]", Make::rich, x -> x.setIn(1, 1, 7, 7) + x.text(0));
        // a place of the row, or of the whole, is none of the part
        for (int place : new int[] {2, 3, -1, Integer.MIN_VALUE, Integer.MAX_VALUE}) {
            Edge.refused(-9, Make::rich, x -> x.setIn(1, place, 7, 7));
        }
        for (int place : new int[] {4, -1, Integer.MIN_VALUE, Integer.MAX_VALUE}) {
            Edge.refused(-9, Make::rich, x -> x.setIn(0, place, 7, 7));
        }
        Edge.refused(-9, Make::hollow, x -> x.setIn(2, 0, 7, 7));
        Edge.refused(-9, Make::hollow, x -> x.setIn(2, -1, 7, 7));
    }

    private static void setInWhereItIsRefused() {
        Edge.says(NO_PART);
        Edge.limits(Check.INDEX, Make::rich, 0, 2, 2, 8, (x, part) -> x.setIn(part, 0, 1, 1));
        Edge.refused(Check.INDEX, Make::rich, x -> x.setIn(3, 9, 100, 10));
        Edge.says("Throws IllegalArgumentException if value is not 0 to 99, or mark not 0 to 9");
        Edge.limits(Check.ARGUMENT, Make::rich, 0, "8[0.1, 3.3]", 99, "8[99.1, 3.3]",
            (x, value) -> x.setIn(2, 0, value, 1) + x.textIn(2));
        Edge.limits(Check.ARGUMENT, Make::rich, 0, "3[8.0, 1.0]", 9, "3[8.0, 1.9]",
            (x, mark) -> x.setIn(2, 1, 1, mark) + x.textIn(2));
        Edge.beyond(Check.ARGUMENT, Make::gone, 0, 99, (x, value) -> x.setIn(2, 0, value, 1));
        Edge.beyond(Check.ARGUMENT, Make::gone, 0, 9, (x, mark) -> x.setIn(2, 0, 1, mark));
        Edge.beyond(Check.ARGUMENT, Make::rich, 0, 99, (x, value) -> x.setIn(0, 4, value, 1));
        Edge.beyond(Check.ARGUMENT, Make::rich, 0, 9, (x, mark) -> x.setIn(0, -1, 1, mark));
        Edge.says(IS_GONE);
        Edge.refused(Check.STATE, Make::gone, x -> x.setIn(2, 0, 1, 1));
        Edge.refused(Check.STATE, Make::gone, x -> x.setIn(2, -1, 1, 1));
        Edge.isWhole();
    }

    private static void reverseIn() {
        Edge.promise(36);
        Edge.says(FIRST_OR_NONE);
        Edge.tells("9[1.0, 9.9, 5.0, 2.0, 2.1]", Make::rich, x -> x.reverseIn(0) + x.text(0));
        Edge.tells("5[1.0, 2.1, 5.0, 2.0, 9.9]", Make::rich, x -> x.reverseIn(1) + x.text(0));
        Edge.tells("5[1.0, 2.1, 2.0, 5.0, 9.9]", EdgesOfPartsTest::deep, x -> x.reverseIn(2) + x.text(0));
        Edge.tells("-1[1.0, 2.1, 2.0, 5.0, 9.9]", Make::hollow, x -> x.reverseIn(2) + x.text(0));
        Edge.says(NO_PART);
        Edge.limits(Check.INDEX, Make::rich, 0, 9, 2, 3, (x, part) -> x.reverseIn(part));
        Edge.says(IS_GONE);
        Edge.refused(Check.STATE, Make::gone, x -> x.reverseIn(2));
        Edge.isWhole();
    }

    private static void rotateIn() {
        Edge.promise(37);
        Edge.says(FIRST_OR_NONE);
        // part 0 has 4 cards: the least int is a multiple of 4, the greatest one 1 less than one
        for (int by : new int[] {0, 4, -4, 400, Integer.MIN_VALUE}) {
            Edge.tells("2[1.0, 2.1, 2.0, 5.0, 9.9]", Make::rich, x -> x.rotateIn(0, by) + x.text(0));
        }
        for (int by : new int[] {1, 5, -3, -7, Integer.MIN_VALUE + 1}) {
            Edge.tells("9[1.0, 9.9, 2.1, 2.0, 5.0]", Make::rich, x -> x.rotateIn(0, by) + x.text(0));
        }
        for (int by : new int[] {-1, 3, 7, -5, Integer.MAX_VALUE}) {
            Edge.tells("2[1.0, 2.0, 5.0, 9.9, 2.1]", Make::rich, x -> x.rotateIn(0, by) + x.text(0));
        }
        for (int by : new int[] {0, 1, -1, Integer.MAX_VALUE, Integer.MIN_VALUE}) {
            Edge.tells("-1[1.0, 2.1, 2.0, 5.0, 9.9]", Make::hollow, x -> x.rotateIn(2, by) + x.text(0));
            Edge.tells("5[1.0, 2.1, 2.0, 5.0, 9.9]", EdgesOfPartsTest::deep, x -> x.rotateIn(2, by) + x.text(0));
        }
        // 2 to the power of 31 is 2 more than a multiple of 3
        Edge.tells("2[2.0, 1.0, 2.1, 5.0, 9.9]", Make::rich, x -> {
            x.part(2, 0, 0, 3);
            return x.rotateIn(2, Integer.MAX_VALUE) + x.text(0);
        });
        Edge.tells("2[2.0, 1.0, 2.1, 5.0, 9.9]", Make::rich, x -> {
            x.part(2, 0, 0, 3);
            return x.rotateIn(2, Integer.MIN_VALUE) + x.text(0);
        });
        Edge.says(NO_PART);
        Edge.limits(Check.INDEX, Make::rich, 0, 9, 2, 3, (x, part) -> x.rotateIn(part, 1));
        Edge.says(IS_GONE);
        Edge.refused(Check.STATE, Make::gone, x -> x.rotateIn(2, 0));
        Edge.refused(Check.STATE, Make::gone, x -> x.rotateIn(2, Integer.MIN_VALUE));
        Edge.isWhole();
    }

    private static void swapIn() {
        Edge.promise(38);
        Edge.says("- b: a place (or the same)");
        Edge.tells("2[1.0, 2.1, 2.0, 5.0, 9.9]", Make::rich, x -> x.swapIn(0, 0, 0) + x.text(0));
        Edge.tells("9[1.0, 2.1, 2.0, 5.0, 9.9]", Make::rich, x -> x.swapIn(0, 3, 3) + x.text(0));
        Edge.says("Returns the VALUE of the one that stands in the place a then; -9, if there is no such place (both).");
        Edge.tells("9[1.0, 9.9, 2.0, 5.0, 2.1]", Make::rich, x -> x.swapIn(0, 0, 3) + x.text(0));
        Edge.tells("2[1.0, 9.9, 2.0, 5.0, 2.1]", Make::rich, x -> x.swapIn(0, 3, 0) + x.text(0));
        Edge.tells("5[1.0, 2.1, 5.0, 2.0, 9.9]", Make::rich, x -> x.swapIn(1, 0, 1) + x.text(0));
        for (int place : new int[] {-1, 2, 3, Integer.MIN_VALUE, Integer.MAX_VALUE}) {
            Edge.refused(-9, Make::rich, x -> x.swapIn(1, place, 0));
            Edge.refused(-9, Make::rich, x -> x.swapIn(1, 0, place));
            Edge.refused(-9, Make::rich, x -> x.swapIn(1, place, place));
        }
        Edge.refused(-9, Make::rich, x -> x.swapIn(0, 4, 0));
        Edge.refused(-9, Make::rich, x -> x.swapIn(0, 0, 4));
        Edge.refused(-9, Make::hollow, x -> x.swapIn(2, 0, 0));
    }

    private static void swapInWhereItIsRefused() {
        Edge.says(NO_PART);
        Edge.limits(Check.INDEX, Make::rich, 0, 2, 2, 3, (x, part) -> x.swapIn(part, 0, 1));
        Edge.refused(Check.INDEX, Make::rich, x -> x.swapIn(3, -1, -1));
        Edge.says(IS_GONE);
        Edge.refused(Check.STATE, Make::gone, x -> x.swapIn(2, 0, 1));
        Edge.refused(Check.STATE, Make::gone, x -> x.swapIn(2, -1, 9));
        Edge.isWhole();
    }

    private static void sortIn() {
        Edge.promise(39);
        Edge.says("SORTS a PART, UP (this is no sort() of the ROW).");
        Edge.tells("2 0[1.0, 2.1, 2.0, 5.0, 9.9]", Make::rich, x -> x.sortIn(0) + " " + x.state(0) + x.text(0));
        Edge.tells("1 0[1.0, 2.1, 2.0, 5.0, 9.9]", Make::rich, x -> {
            x.part(0, 0, 0, 5);
            return x.sortIn(0) + " " + x.state(0) + x.text(0);
        });
        Edge.tells("2[1.0, 2.1, 2.0, 5.0, 9.9][2.0, 5.0] 1", Make::rich,
            x -> x.sortIn(0) + x.text(0) + x.textIn(1) + " " + x.hasStep(0));
        Edge.says(FIRST_OR_NONE);
        Edge.tells("3[3.3, 8.0, 3.0]", Make::rich, x -> x.sortIn(2) + x.text(1));
        Edge.tells("3[3.3, 3.0, 8.0]", Make::rich, x -> {
            x.part(2, 1, 0, 3);
            return x.sortIn(2) + x.text(1);
        });
        Edge.tells("5[1.0, 2.1, 2.0, 5.0, 9.9]", EdgesOfPartsTest::deep, x -> x.sortIn(2) + x.text(0));
        Edge.tells("-1[1.0, 2.1, 2.0, 5.0, 9.9]", Make::hollow, x -> x.sortIn(2) + x.text(0));
        Edge.says(NO_PART);
        Edge.limits(Check.INDEX, Make::rich, 0, 2, 2, 3, (x, part) -> x.sortIn(part));
        Edge.says(IS_GONE);
        Edge.refused(Check.STATE, Make::gone, x -> x.sortIn(2));
        Edge.isWhole();
    }

    private static void textIn() {
        Edge.promise(40);
        Edge.says("Returns it as a text; \"-\", if it is GONE.");
        Edge.tells("-", Make::gone, x -> x.textIn(2));
        Edge.tells("---", Rowtricks::new, EdgesOfPartsTest::texts);
        Edge.tells("[]", Make::hollow, x -> x.textIn(2));
        Edge.tells("[5.0]", EdgesOfPartsTest::deep, x -> x.textIn(2));
        Edge.says(NO_PART);
        Edge.limits(Check.INDEX, Make::rich, 0, "[2.1, 2.0, 5.0, 9.9]", 2, "[8.0, 3.3]", (x, part) -> x.textIn(part));
        Edge.isWhole();
    }

    private static void sizeIn() {
        Edge.promise(41);
        Edge.says("Returns how many cards it has; NONE, if it is GONE.");
        Edge.tells(-1, Make::gone, x -> x.sizeIn(2));
        Edge.tells("-1 -1 -1", Rowtricks::new, x -> x.sizeIn(0) + " " + x.sizeIn(1) + " " + x.sizeIn(2));
        Edge.tells(0, Make::hollow, x -> x.sizeIn(2));
        Edge.tells("2 2 0", Make::rich, x -> x.cut(1) + " " + x.sizeIn(0) + " " + x.sizeIn(1));
        Edge.tells(31, Make::rich, x -> {
            x.part(2, 2, 0, 31);
            return x.sizeIn(2);
        });
        Edge.says(NO_PART);
        Edge.limits(Check.INDEX, Make::rich, 0, 4, 2, 2, (x, part) -> x.sizeIn(part));
        Edge.isWhole();
    }

    private static void indexOfIn() {
        Edge.promise(42);
        Edge.says("Returns the first place from which on the one stands in the other one; NONE without.");
        Edge.tells("1 -1", Make::rich, x -> x.indexOfIn(0, 0, true) + " " + x.indexOfIn(0, 0, false));
        Edge.tells("2 -1", Make::rich, x -> x.indexOfIn(1, 0, true) + " " + x.indexOfIn(1, 0, false));
        Edge.tells("-1 -1", Make::rich, x -> x.indexOfIn(0, 1, true) + " " + x.indexOfIn(0, 1, false));
        // the empty row, the empty part, and both
        Edge.tells("-1 0", Make::rich, x -> x.indexOfIn(0, 3, true) + " " + x.indexOfIn(0, 3, false));
        Edge.tells("0 -1", Make::hollow, x -> x.indexOfIn(2, 0, true) + " " + x.indexOfIn(2, 0, false));
        Edge.tells("0 0", Make::hollow, x -> x.indexOfIn(2, 3, true) + " " + x.indexOfIn(2, 3, false));
        // the last place where it could stand, and one card too many behind it
        Edge.tells("2 -1", Make::rich, x -> {
            x.addTwo(3, 5, 0, 9, 9);
            int atTheEnd = x.indexOfIn(0, 3, false);
            x.add(3, 1, 1);
            return atTheEnd + " " + x.indexOfIn(0, 3, false);
        });
        // what stands in the row, but goes beyond the part, does not stand in the part
        Edge.tells("-1", Make::rich, x -> {
            x.addTwo(3, 5, 0, 9, 9);
            return x.indexOfIn(1, 3, false);
        });
        Edge.says("Throws IndexOutOfBoundsException if part is not 0 to 2, or there is no such ROW");
        Edge.limits(Check.INDEX, Make::rich, 0, 1, 2, -1, (x, part) -> x.indexOfIn(part, 0, true));
        Edge.limits(Check.INDEX, Make::rich, 0, 1, 3, -1, (x, row) -> x.indexOfIn(0, row, true));
        Edge.limits(Check.INDEX, Make::rich, 0, -1, 3, 0, (x, row) -> x.indexOfIn(0, row, false));
        Edge.beyond(Check.INDEX, Make::gone, 0, 3, (x, row) -> x.indexOfIn(2, row, false));
        Edge.says(IS_GONE);
        Edge.refused(Check.STATE, Make::gone, x -> x.indexOfIn(2, 0, true));
        Edge.refused(Check.STATE, Make::gone, x -> x.indexOfIn(2, 3, false));
        Edge.isWhole();
    }
}
