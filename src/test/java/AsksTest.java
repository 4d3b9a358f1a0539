/** Promises 17 to 30: what is asked of rows. */
public final class AsksTest {
    public static void main(String[] args) {
        size();
        text();
        at();
        frequency();
        indexOf();
        disjoint();
        isSame();
        indexOfRow();
        most();
        mostTurned();
        search();
        state();
        compare();
        copiesIn();
        asksChangeNothing();
        Check.end();
    }

    private static void size() {
        Rowtricks x = Make.row0(10, 20);
        Check.is(2, () -> x.size(0));
        Check.is(0, () -> x.size(3));
        Check.is(31, () -> Make.full().size(0));
        Check.refused(Check.INDEX, x, () -> x.size(4));
        Check.refused(Check.INDEX, x, () -> x.size(-1));
    }

    private static void text() {
        Rowtricks x = Make.row0(70, 0, 999);
        Check.is("[7.0, 0.0, 99.9]", () -> x.text(0));
        Check.is("[]", () -> x.text(1));
        x.add(1, 10, 1);
        Check.is("[10.1]", () -> x.text(1));
        Check.refused(Check.INDEX, x, () -> x.text(4));
        Check.refused(Check.INDEX, x, () -> x.text(-1));
    }

    private static void at() {
        Rowtricks x = Make.row0(78, 91);
        Check.is(7, () -> x.at(0, 0, false));
        Check.is(8, () -> x.at(0, 0, true));
        Check.is(9, () -> x.at(0, 1, false));
        Check.is(1, () -> x.at(0, 1, true));
        Check.refused(Check.INDEX, x, () -> x.at(0, 2, true));
        Check.refused(Check.INDEX, x, () -> x.at(0, -1, false));
        Check.refused(Check.INDEX, x, () -> x.at(4, 0, false));
        Check.refused(Check.INDEX, x, () -> x.at(1, 0, false));
    }

    private static void frequency() {
        Rowtricks x = Make.row0(10, 11, 10, 20);
        Check.is(2, () -> x.frequency(0, 1, 0));
        Check.is(1, () -> x.frequency(0, 1, 1));
        Check.is(0, () -> x.frequency(0, 2, 1));
        Check.is(0, () -> x.frequency(1, 1, 0));
        Check.is(31, () -> Make.full().frequency(0, 5, 5));
        Check.refused(Check.INDEX, x, () -> x.frequency(4, 100, 0));
        Check.refused(Check.ARGUMENT, x, () -> x.frequency(0, 100, 0));
        Check.refused(Check.ARGUMENT, x, () -> x.frequency(0, -1, 0));
        Check.refused(Check.ARGUMENT, x, () -> x.frequency(0, 0, 10));
        Check.refused(Check.ARGUMENT, x, () -> x.frequency(0, 1, -1));
    }

    private static void indexOf() {
        Rowtricks x = Make.row0(11, 10, 20, 10, 12);
        Check.is(1, () -> x.indexOf(0, 1, 0, false));
        Check.is(3, () -> x.indexOf(0, 1, 0, true));
        Check.is(0, () -> x.indexOf(0, 1, 1, true));
        Check.is(4, () -> x.indexOf(0, 1, 2, false));
        Check.is(-1, () -> x.indexOf(0, 2, 1, false));
        Check.is(-1, () -> x.indexOf(1, 1, 0, true));
        Check.refused(Check.INDEX, x, () -> x.indexOf(4, 100, 0, true));
        Check.refused(Check.ARGUMENT, x, () -> x.indexOf(0, 100, 0, true));
        Check.refused(Check.ARGUMENT, x, () -> x.indexOf(0, 1, 10, false));
        Check.is(0, () -> x.indexOf(0, 1, 1, false));
        Check.is(4, () -> x.indexOf(0, 1, 2, true));
        x.remove(0, 4);
        Check.is(-1, () -> x.indexOf(0, 1, 2, false));
        Check.is(-1, () -> x.indexOf(0, 1, 2, true));
    }

    private static void disjoint() {
        Rowtricks x = Make.row0(10, 20);
        Make.row(x, 1, 11, 21);
        Make.row(x, 2, 30, 20);
        Check.is(true, () -> x.disjoint(0, 1));
        Check.is(false, () -> x.disjoint(0, 2));
        Check.is(false, () -> x.disjoint(2, 0));
        Check.is(true, () -> x.disjoint(0, 3));
        Check.is(true, () -> x.disjoint(3, 3));
        Check.is(false, () -> x.disjoint(0, 0));
        Make.row(x, 3, 10, 20);
        x.remove(3, 1);
        Check.is(true, () -> x.disjoint(3, 2));
        Check.is(false, () -> x.disjoint(3, 0));
        Check.refused(Check.INDEX, x, () -> x.disjoint(0, 4));
        Check.refused(Check.INDEX, x, () -> x.disjoint(-1, 0));
    }

    private static void isSame() {
        Rowtricks x = Make.row0(10, 20);
        Make.row(x, 1, 10, 20);
        Make.row(x, 2, 10, 21);
        Make.row(x, 3, 10, 20, 30);
        Check.is(true, () -> x.isSame(0, 1));
        Check.is(false, () -> x.isSame(0, 2));
        Check.is(false, () -> x.isSame(0, 3));
        Check.is(false, () -> x.isSame(3, 0));
        Check.is(true, () -> x.isSame(0, 0));
        x.clear(0);
        Check.is(false, () -> x.isSame(0, 1));
        x.clear(1);
        Check.is(true, () -> x.isSame(0, 1));
        Check.refused(Check.INDEX, x, () -> x.isSame(0, 4));
        Check.refused(Check.INDEX, x, () -> x.isSame(-1, 0));
    }

    private static void indexOfRow() {
        Rowtricks x = Make.row0(10, 10, 20, 10, 20, 30);
        Make.row(x, 1, 10, 20);
        Make.row(x, 2, 20, 30);
        Check.is(1, () -> x.indexOfRow(0, 1));
        Check.is(4, () -> x.indexOfRow(0, 2));
        Check.is(0, () -> x.indexOfRow(0, 0));
        Check.is(0, () -> x.indexOfRow(0, 3));
        Check.is(0, () -> x.indexOfRow(3, 3));
        Check.is(-1, () -> x.indexOfRow(3, 0));
        Check.is(-1, () -> x.indexOfRow(1, 0));
        Check.is(-1, () -> x.indexOfRow(1, 2));
        x.set(2, 1, 3, 1);
        Check.is(-1, () -> x.indexOfRow(0, 2));
        Check.refused(Check.INDEX, x, () -> x.indexOfRow(0, 4));
        Check.refused(Check.INDEX, x, () -> x.indexOfRow(-1, 0));
    }

    private static void most() {
        Rowtricks x = Make.row0(50, 999, 30, 70);
        Check.is(99, () -> x.most(0, false));
        Check.is(3, () -> x.most(0, true));
        Check.is(-9, () -> x.most(1, false));
        Check.is(-9, () -> x.most(1, true));
        x.add(1, 4, 4);
        Check.is(4, () -> x.most(1, false));
        Check.is(4, () -> x.most(1, true));
        Check.refused(Check.INDEX, x, () -> x.most(4, true));
        Check.refused(Check.INDEX, x, () -> x.most(-1, false));
    }

    private static void mostTurned() {
        Rowtricks x = Make.row0(50, 999, 30, 70);
        Check.is(3, () -> x.mostTurned(0, false));
        Check.is(99, () -> x.mostTurned(0, true));
        Check.is(-9, () -> x.mostTurned(1, false));
        Check.is(-9, () -> x.mostTurned(1, true));
        Check.refused(Check.INDEX, x, () -> x.mostTurned(4, true));
        Check.refused(Check.INDEX, x, () -> x.mostTurned(-1, false));
    }

    private static void search() {
        Rowtricks x = Make.row0(20, 40, 40, 60);
        Check.refused(Check.STATE, x, () -> x.search(0, 4));
        Check.refused(Check.ARGUMENT, x, () -> x.search(0, 100));
        Check.refused(Check.ARGUMENT, x, () -> x.search(0, -1));
        Check.refused(Check.INDEX, x, () -> x.search(4, 100));
        x.sort(0, false);
        Check.is(1, () -> x.search(0, 2));
        Check.is(1, () -> x.search(0, 4));
        Check.is(1, () -> x.search(0, 6));
        Check.is(-1, () -> x.search(0, 0));
        Check.is(-2, () -> x.search(0, 3));
        Check.is(-4, () -> x.search(0, 5));
        Check.is(-5, () -> x.search(0, 99));
        x.sort(0, true);
        Check.is(1, () -> x.search(0, 4));
        Check.is(-5, () -> x.search(0, 0));
        Check.is(-4, () -> x.search(0, 3));
        Check.is(-2, () -> x.search(0, 5));
        Check.is(-1, () -> x.search(0, 99));
        x.sort(1, true);
        Check.is(-1, () -> x.search(1, 50));
        x.set(0, 0, 6, 0);
        Check.refused(Check.STATE, x, () -> x.search(0, 4));
    }

    private static void state() {
        Rowtricks x = Make.row0(10, 20);
        Check.is(0, () -> x.state(0));
        x.sort(0, false);
        Check.is(1, () -> x.state(0));
        x.sort(0, true);
        Check.is(2, () -> x.state(0));
        Check.is(0, () -> x.state(1));
        x.add(1, 1, 1);
        x.append(2, 0);
        x.copy(3, 0);
        Check.is(2, () -> x.state(0));
        Check.is(0, () -> x.state(3));
        Check.refused(Check.INDEX, x, () -> x.state(4));
        Check.refused(Check.INDEX, x, () -> x.state(-1));
        stateThroughParts();
    }

    /** What counts as done through a part, and what does not. */
    private static void stateThroughParts() {
        Rowtricks x = Make.row0(10, 20);
        x.sort(0, false);
        x.part(0, 0, 0, 2);
        x.inner(1, 0, 1, 1);
        x.walk(0);
        x.step(0);
        x.drop(2);
        x.setIn(0, 2, 1, 1);
        x.swapIn(0, 0, 2);
        x.refuse(0, 3, 0);
        Check.is(1, () -> x.state(0));
        Check.is(0, () -> x.cut(1));
        Check.is(0, () -> x.state(0));
        for (int way = 0; way < 6; way++) {
            int w = way;
            Rowtricks y = Make.row0(10, 20);
            y.sort(0, true);
            y.part(0, 0, 0, w < 3 ? 0 : 2);
            throughPart(y, w);
            Check.is(0, () -> y.state(0));
        }
    }

    private static void throughPart(Rowtricks x, int way) {
        switch (way) {
            case 0 -> x.reverseIn(0);
            case 1 -> x.rotateIn(0, 1);
            case 2 -> x.sortIn(0);
            case 3 -> x.swapIn(0, 1, 1);
            case 4 -> x.setIn(0, 0, 2, 0);
            default -> x.cut(0);
        }
    }

    private static void compare() {
        Rowtricks x = new Rowtricks();
        Check.is(-1, () -> x.compare(9, 2));
        Check.is(1, () -> x.compare(2, 9));
        Check.is(0, () -> x.compare(7, 7));
        Check.is(-1, () -> x.compare(99, 0));
        Check.is(1, () -> x.compare(0, 99));
        Check.refused(Check.ARGUMENT, x, () -> x.compare(100, 0));
        Check.refused(Check.ARGUMENT, x, () -> x.compare(0, 100));
        Check.refused(Check.ARGUMENT, x, () -> x.compare(-1, 0));
        Check.refused(Check.ARGUMENT, x, () -> x.compare(0, -1));
    }

    private static void copiesIn() {
        Rowtricks x = Make.row0(10, 20, 10, 10, 30);
        Check.is(0, () -> x.copiesIn(1, 1, 0, 0));
        Check.is(2, () -> x.copiesIn(2, 1, 0, 0));
        Check.is(-1, () -> x.copiesIn(3, 1, 0, 0));
        Check.is(4, () -> x.copiesIn(1, 3, 0, 0));
        Check.is(-1, () -> x.copiesIn(1, 3, 1, 0));
        Check.is(0, () -> x.copiesIn(0, 3, 1, 0));
        Check.is(0, () -> x.copiesIn(0, 3, 1, 1));
        Check.is(-1, () -> x.copiesIn(31, 1, 0, 0));
        Check.is(0, () -> Make.full().copiesIn(31, 5, 5, 0));
        Check.refused(Check.INDEX, x, () -> x.copiesIn(32, 1, 0, 4));
        Check.refused(Check.ARGUMENT, x, () -> x.copiesIn(32, 1, 0, 0));
        Check.refused(Check.ARGUMENT, x, () -> x.copiesIn(-1, 1, 0, 0));
        Check.refused(Check.ARGUMENT, x, () -> x.copiesIn(1, 100, 0, 0));
        Check.refused(Check.ARGUMENT, x, () -> x.copiesIn(1, 1, 10, 0));
    }

    private static void asksChangeNothing() {
        Rowtricks x = Make.row0(30, 10, 20);
        x.sort(0, true);
        x.part(0, 0, 0, 3);
        x.walk(0);
        Make.row(x, 1, 10);
        String before = Snapshot.of(x);
        x.size(0);
        x.at(0, 0, true);
        x.frequency(0, 1, 0);
        x.indexOf(0, 1, 0, true);
        x.disjoint(0, 1);
        x.isSame(0, 1);
        x.indexOfRow(0, 1);
        x.most(0, true);
        x.mostTurned(0, true);
        x.search(0, 1);
        x.compare(1, 2);
        x.copiesIn(2, 1, 0, 0);
        x.sizeIn(0);
        x.indexOfIn(0, 1, false);
        x.viewText(0);
        x.viewFrequency(0, 1, 0);
        x.isSound();
        Check.compare(before, Snapshot.of(x));
        Check.is(3, () -> x.step(0));
    }
}
