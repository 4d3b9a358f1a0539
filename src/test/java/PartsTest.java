/** Promises 31 to 42: parts. */
public final class PartsTest {
    public static void main(String[] args) {
        part();
        inner();
        drop();
        cut();
        cutBesides();
        setIn();
        reverseIn();
        rotateIn();
        swapIn();
        sortIn();
        textIn();
        sizeIn();
        indexOfIn();
        Check.end();
    }

    /** Row 0 as 1.0 to 6.0, part 0 of it from 1 to 5, part 1 of that from 1 to 3. */
    private static Rowtricks nested() {
        Rowtricks x = Make.row0(10, 20, 30, 40, 50, 60);
        x.part(0, 0, 1, 5);
        x.inner(1, 0, 1, 3);
        return x;
    }

    private static void texts(Rowtricks x, String part0, String part1, String part2) {
        Check.is(part0, () -> x.textIn(0));
        Check.is(part1, () -> x.textIn(1));
        Check.is(part2, () -> x.textIn(2));
    }

    private static void part() {
        Rowtricks x = nested();
        texts(x, "[2.0, 3.0, 4.0, 5.0]", "[3.0, 4.0]", "-");
        Check.is(6, () -> x.part(2, 0, 0, 6));
        Check.is(0, () -> x.part(2, 0, 6, 6));
        Check.is(0, () -> x.part(2, 1, 0, 0));
        Check.refused(Check.INDEX, x, () -> x.part(3, 0, 0, 1));
        Check.refused(Check.INDEX, x, () -> x.part(-1, 0, 0, 1));
        Check.refused(Check.INDEX, x, () -> x.part(0, 4, 0, 0));
        Check.refused(Check.INDEX, x, () -> x.part(0, 0, -1, 1));
        Check.refused(Check.INDEX, x, () -> x.part(0, 0, 0, 7));
        Check.refused(Check.INDEX, x, () -> x.part(0, 0, 2, 1));
        Check.refused(Check.INDEX, x, () -> x.part(0, 0, Integer.MAX_VALUE, Integer.MIN_VALUE));
        Check.is(1, () -> x.part(0, 0, 0, 1));
        texts(x, "[1.0]", "-", "[]");
        Rowtricks deep = nested();
        deep.inner(2, 1, 0, 1);
        Check.is(2, () -> deep.part(1, 0, 0, 2));
        texts(deep, "[2.0, 3.0, 4.0, 5.0]", "[1.0, 2.0]", "-");
        Check.is(1, () -> deep.part(0, 0, 0, 1));
        Check.is("[1.0, 2.0]", () -> deep.textIn(1));
    }

    private static void inner() {
        Rowtricks x = nested();
        Check.is(1, () -> x.inner(2, 1, 1, 2));
        Check.is("[4.0]", () -> x.textIn(2));
        Check.refused(Check.INDEX, x, () -> x.inner(3, 0, 0, 0));
        Check.refused(Check.INDEX, x, () -> x.inner(0, 3, 0, 0));
        Check.refused(Check.INDEX, x, () -> x.inner(-1, -1, 0, 0));
        Check.refused(Check.ARGUMENT, x, () -> x.inner(2, 2, 0, 0));
        Check.refused(Check.STATE, x, () -> x.inner(0, 1, 0, 0));
        Check.refused(Check.STATE, x, () -> x.inner(0, 2, 0, 0));
        Check.refused(Check.STATE, x, () -> x.inner(1, 2, 0, 0));
        Check.refused(Check.STATE, x, () -> x.inner(2, 1, -1, 0));
        Check.refused(Check.STATE, x, () -> x.inner(2, 1, 0, 3));
        Check.refused(Check.STATE, x, () -> x.inner(2, 1, 2, 1));
        Check.is(0, () -> x.inner(2, 0, 4, 4));
        Check.is(4, () -> x.inner(1, 0, 0, 4));
        innerLaidAnew();
    }

    private static void innerLaidAnew() {
        Rowtricks gone = nested();
        Check.refused(Check.STATE, gone, () -> gone.inner(0, 2, 0, 0));
        Check.refused(Check.ARGUMENT, gone, () -> gone.inner(2, 2, 0, 0));
        Rowtricks x = nested();
        x.inner(2, 1, 0, 1);
        Check.is(2, () -> x.inner(1, 0, 0, 2));
        texts(x, "[2.0, 3.0, 4.0, 5.0]", "[2.0, 3.0]", "-");
        // part 0 may lie within part 2 now: what lay within part 0 is GONE with it
        x.part(2, 0, 0, 6);
        Check.is(3, () -> x.inner(0, 2, 3, 6));
        texts(x, "[4.0, 5.0, 6.0]", "-", "[1.0, 2.0, 3.0, 4.0, 5.0, 6.0]");
        // part 1 was once within part 0: as it is laid anew it no longer is
        x.part(1, 0, 0, 1);
        x.inner(0, 1, 0, 1);
        texts(x, "[1.0]", "[1.0]", "[1.0, 2.0, 3.0, 4.0, 5.0, 6.0]");
        x.drop(1);
        texts(x, "-", "-", "[1.0, 2.0, 3.0, 4.0, 5.0, 6.0]");
    }

    private static void drop() {
        Rowtricks x = nested();
        x.inner(2, 1, 0, 1);
        Check.refused(Check.INDEX, x, () -> x.drop(3));
        Check.refused(Check.INDEX, x, () -> x.drop(-1));
        Check.is(1, () -> x.drop(2));
        texts(x, "[2.0, 3.0, 4.0, 5.0]", "[3.0, 4.0]", "-");
        Check.is(0, () -> x.drop(2));
        x.inner(2, 1, 0, 1);
        Check.is(1, () -> x.drop(0));
        texts(x, "-", "-", "-");
        Check.is(0, () -> x.drop(1));
        Check.is("[1.0, 2.0, 3.0, 4.0, 5.0, 6.0]", () -> x.text(0));
        Rowtricks middle = nested();
        middle.inner(2, 1, 0, 1);
        middle.drop(1);
        texts(middle, "[2.0, 3.0, 4.0, 5.0]", "-", "-");
    }

    private static void cut() {
        Rowtricks x = nested();
        x.inner(2, 1, 0, 1);
        x.walk(0);
        Check.refused(Check.INDEX, x, () -> x.cut(3));
        Check.refused(Check.INDEX, x, () -> x.cut(-1));
        Check.is(2, () -> x.cut(1));
        texts(x, "[2.0, 5.0]", "[]", "-");
        Check.is("[1.0, 2.0, 5.0, 6.0]", () -> x.text(0));
        Check.is(-1, () -> x.hasStep(0));
        Check.refused(Check.STATE, x, () -> x.cut(2));
        x.walk(0);
        x.part(2, 0, 3, 4);
        Check.is(0, () -> x.cut(1));
        texts(x, "[2.0, 5.0]", "[]", "[6.0]");
        Check.is(1, () -> x.hasStep(0));
        Check.is(2, () -> x.cut(0));
        texts(x, "[]", "-", "-");
        Check.is("[1.0, 6.0]", () -> x.text(0));
    }

    private static void cutBesides() {
        Rowtricks x = nested();
        x.part(2, 0, 5, 6);
        Make.row(x, 1, 10);
        Check.is(1, () -> x.cut(2));
        texts(x, "-", "-", "[]");
        Rowtricks chain = nested();
        chain.inner(2, 1, 1, 2);
        Check.is(1, () -> chain.cut(2));
        texts(chain, "[2.0, 3.0, 5.0]", "[3.0]", "[]");
        Check.is("[1.0, 2.0, 3.0, 5.0, 6.0]", () -> chain.text(0));
        Check.is(2, () -> chain.setIn(0, 0, 7, 7));
        Check.is(5, () -> chain.setIn(0, 2, 8, 8));
        Check.is("[1.0, 7.7, 3.0, 8.8, 6.0]", () -> chain.text(0));
        Rowtricks others = Make.row0(10, 20);
        Make.row(others, 1, 30, 40);
        others.part(0, 0, 0, 1);
        others.part(1, 1, 0, 1);
        others.walk(1);
        Check.is(1, () -> others.cut(0));
        texts(others, "[]", "[3.0]", "-");
        Check.is(1, () -> others.hasStep(1));
    }

    private static void setIn() {
        Rowtricks x = nested();
        Check.is(4, () -> x.setIn(1, 1, 9, 9));
        Check.is("[1.0, 2.0, 3.0, 9.9, 5.0, 6.0]", () -> x.text(0));
        Check.refused("-9", x, () -> x.setIn(1, 2, 1, 1));
        Check.refused("-9", x, () -> x.setIn(1, -1, 1, 1));
        Check.refused(Check.INDEX, x, () -> x.setIn(3, 0, 100, 1));
        Check.refused(Check.ARGUMENT, x, () -> x.setIn(1, 0, 100, 1));
        Check.refused(Check.ARGUMENT, x, () -> x.setIn(1, 9, 1, 10));
        Check.refused(Check.STATE, x, () -> x.setIn(2, 0, 1, 1));
        Check.refused(Check.ARGUMENT, x, () -> x.setIn(2, 0, -1, 1));
        texts(x, "[2.0, 3.0, 9.9, 5.0]", "[3.0, 9.9]", "-");
    }

    private static void reverseIn() {
        Rowtricks x = nested();
        Check.is(5, () -> x.reverseIn(0));
        Check.is("[1.0, 5.0, 4.0, 3.0, 2.0, 6.0]", () -> x.text(0));
        texts(x, "[5.0, 4.0, 3.0, 2.0]", "[4.0, 3.0]", "-");
        x.part(2, 0, 3, 3);
        Check.is(-1, () -> x.reverseIn(2));
        x.drop(2);
        Check.refused(Check.STATE, x, () -> x.reverseIn(2));
        Check.refused(Check.INDEX, x, () -> x.reverseIn(3));
    }

    private static void rotateIn() {
        Rowtricks x = nested();
        Check.is(5, () -> x.rotateIn(0, 1));
        Check.is("[1.0, 5.0, 2.0, 3.0, 4.0, 6.0]", () -> x.text(0));
        Check.is(2, () -> x.rotateIn(0, -1));
        // 2147483647 is 3 more than a multiple of 4
        Check.is(3, () -> x.rotateIn(0, Integer.MAX_VALUE));
        Check.is(3, () -> x.rotateIn(0, Integer.MIN_VALUE));
        Check.is("[1.0, 3.0, 4.0, 5.0, 2.0, 6.0]", () -> x.text(0));
        x.part(2, 0, 3, 3);
        Check.is(-1, () -> x.rotateIn(2, 5));
        x.drop(2);
        Check.refused(Check.STATE, x, () -> x.rotateIn(2, 1));
        Check.refused(Check.INDEX, x, () -> x.rotateIn(-1, 1));
    }

    private static void swapIn() {
        Rowtricks x = nested();
        Check.is(4, () -> x.swapIn(1, 0, 1));
        Check.is("[1.0, 2.0, 4.0, 3.0, 5.0, 6.0]", () -> x.text(0));
        Check.is(3, () -> x.swapIn(1, 1, 1));
        Check.is(4, () -> x.swapIn(0, 2, 1));
        Check.is("[1.0, 2.0, 3.0, 4.0, 5.0, 6.0]", () -> x.text(0));
        Check.refused("-9", x, () -> x.swapIn(1, 2, 0));
        Check.refused("-9", x, () -> x.swapIn(1, 0, 2));
        Check.refused("-9", x, () -> x.swapIn(1, -1, 0));
        Check.refused("-9", x, () -> x.swapIn(1, 0, -1));
        Check.refused(Check.STATE, x, () -> x.swapIn(2, 0, 0));
        Check.refused(Check.INDEX, x, () -> x.swapIn(3, 0, 0));
    }

    private static void sortIn() {
        Rowtricks x = Make.row0(90, 52, 41, 51, 30, 10);
        x.part(0, 0, 1, 5);
        x.inner(1, 0, 0, 1);
        x.walk(0);
        Check.is(3, () -> x.sortIn(0));
        Check.is("[9.0, 3.0, 4.1, 5.2, 5.1, 1.0]", () -> x.text(0));
        texts(x, "[3.0, 4.1, 5.2, 5.1]", "[3.0]", "-");
        Check.is(1, () -> x.hasStep(0));
        Check.is(0, () -> x.state(0));
        x.part(2, 0, 0, 6);
        Check.is(1, () -> x.sortIn(2));
        Check.is(0, () -> x.state(0));
        x.part(2, 1, 0, 0);
        Check.is(-1, () -> x.sortIn(2));
        x.drop(2);
        Check.refused(Check.STATE, x, () -> x.sortIn(2));
        Check.refused(Check.INDEX, x, () -> x.sortIn(3));
    }

    private static void textIn() {
        Rowtricks x = nested();
        x.rotate(0, 1);
        Check.is("[1.0, 2.0, 3.0, 4.0]", () -> x.textIn(0));
        Check.is("-", () -> x.textIn(2));
        x.part(2, 0, 6, 6);
        Check.is("[]", () -> x.textIn(2));
        Check.refused(Check.INDEX, x, () -> x.textIn(3));
        Check.refused(Check.INDEX, x, () -> x.textIn(-1));
    }

    private static void sizeIn() {
        Rowtricks x = nested();
        Check.is(4, () -> x.sizeIn(0));
        Check.is(2, () -> x.sizeIn(1));
        Check.is(-1, () -> x.sizeIn(2));
        x.part(2, 0, 6, 6);
        Check.is(0, () -> x.sizeIn(2));
        x.drop(2);
        Check.is(-1, () -> x.sizeIn(2));
        Check.refused(Check.INDEX, x, () -> x.sizeIn(3));
        Check.refused(Check.INDEX, x, () -> x.sizeIn(-1));
    }

    private static void indexOfIn() {
        Rowtricks x = nested();
        Make.row(x, 1, 40, 30, 40);
        Make.row(x, 2, 30, 40, 50);
        Check.is(1, () -> x.indexOfIn(1, 1, true));
        Check.is(0, () -> x.indexOfIn(1, 2, true));
        Check.is(2, () -> x.indexOfIn(1, 0, true));
        Check.is(1, () -> x.indexOfIn(0, 2, false));
        Check.is(-1, () -> x.indexOfIn(1, 2, false));
        Check.is(-1, () -> x.indexOfIn(0, 2, true));
        Check.is(-1, () -> x.indexOfIn(0, 0, false));
        Check.is(0, () -> x.indexOfIn(0, 3, false));
        Check.is(-1, () -> x.indexOfIn(0, 3, true));
        Check.refused(Check.STATE, x, () -> x.indexOfIn(2, 0, true));
        Check.refused(Check.INDEX, x, () -> x.indexOfIn(2, 4, true));
        Check.refused(Check.INDEX, x, () -> x.indexOfIn(3, 0, true));
        x.part(2, 0, 3, 3);
        Check.is(0, () -> x.indexOfIn(2, 0, true));
        Check.is(0, () -> x.indexOfIn(2, 3, false));
        Check.is(-1, () -> x.indexOfIn(2, 0, false));
    }
}
