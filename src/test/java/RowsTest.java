/** Promises 1 to 16: a new object, and what is done to rows. */
public final class RowsTest {
    public static void main(String[] args) {
        newObject();
        add();
        insert();
        remove();
        set();
        clear();
        addTwo();
        addCopies();
        append();
        copy();
        fill();
        replace();
        reverse();
        rotate();
        swap();
        sort();
        Check.end();
    }

    /** A row with a part, a walk and the STATE UP, to see what a call lets be. */
    private static Rowtricks watched(int... cards) {
        Rowtricks x = Make.row0(cards);
        x.sort(0, false);
        x.part(0, 0, 0, x.size(0));
        x.walk(0);
        Make.row(x, 3, 11);
        x.sort(3, true);
        x.part(2, 3, 0, 1);
        x.walk(3);
        return x;
    }

    /** The row is LOOSE, its part and its walk are GONE; those of another row are not. */
    private static void isReshaped(Rowtricks x) {
        Check.is(0, () -> x.state(0));
        Check.is("-", () -> x.textIn(0));
        Check.is(-1, () -> x.hasStep(0));
        othersAre(x);
    }

    /** The row is LOOSE, its part and its walk are let be. */
    private static void isLoosened(Rowtricks x) {
        Check.is(0, () -> x.state(0));
        Check.is(x.text(0), () -> x.textIn(0));
        Check.is(x.size(0) > 0 ? 1 : 0, () -> x.hasStep(0));
        othersAre(x);
    }

    private static void othersAre(Rowtricks x) {
        Check.is(2, () -> x.state(3));
        Check.is("[1.1]", () -> x.textIn(2));
        Check.is(1, () -> x.hasStep(3));
    }

    private static void newObject() {
        Rowtricks x = new Rowtricks();
        for (int row = 0; row < 4; row++) {
            int r = row;
            Check.is(0, () -> x.size(r));
            Check.is("[]", () -> x.text(r));
            Check.is(0, () -> x.state(r));
            Check.is(-1, () -> x.hasStep(r));
        }
        for (int part = 0; part < 3; part++) {
            int p = part;
            Check.is("-", () -> x.textIn(p));
        }
        for (int what = 0; what < 4; what++) {
            int w = what;
            Check.is(0, () -> x.house(w));
        }
    }

    private static void add() {
        Rowtricks x = new Rowtricks();
        Check.is(1, () -> x.add(1, 7, 0));
        Check.is(2, () -> x.add(1, 99, 9));
        Check.is(3, () -> x.add(1, 0, 0));
        Check.is("[7.0, 99.9, 0.0]", () -> x.text(1));
        Check.refused(Check.INDEX, x, () -> x.add(-1, 1, 1));
        Check.refused(Check.INDEX, x, () -> x.add(4, 1, 1));
        Check.refused(Check.ARGUMENT, x, () -> x.add(1, -1, 1));
        Check.refused(Check.ARGUMENT, x, () -> x.add(1, 100, 1));
        Check.refused(Check.ARGUMENT, x, () -> x.add(1, 1, -1));
        Check.refused(Check.ARGUMENT, x, () -> x.add(1, 1, 10));
        Check.refused(Check.INDEX, x, () -> x.add(4, 100, 10));
        Rowtricks full = Make.full();
        full.sort(0, false);
        full.part(0, 0, 0, 31);
        full.walk(0);
        Check.refused(Check.STATE, full, () -> full.add(0, 1, 1));
        Check.refused(Check.ARGUMENT, full, () -> full.add(0, 100, 1));
        Check.refused(Check.INDEX, full, () -> full.add(Integer.MIN_VALUE, 1, 1));
        Rowtricks nearly = new Rowtricks();
        nearly.addCopies(2, 30, 1, 1);
        Check.is(31, () -> nearly.add(2, 1, 1));
        Rowtricks w = watched(10, 20);
        w.add(0, 3, 0);
        isReshaped(w);
    }

    private static void insert() {
        Rowtricks x = Make.row0(10, 20);
        Check.is(3, () -> x.insert(0, 0, 5, 5));
        Check.is("[5.5, 1.0, 2.0]", () -> x.text(0));
        Check.is(4, () -> x.insert(0, 3, 6, 6));
        Check.is("[5.5, 1.0, 2.0, 6.6]", () -> x.text(0));
        Check.is(5, () -> x.insert(0, 1, 7, 7));
        Check.is("[5.5, 7.7, 1.0, 2.0, 6.6]", () -> x.text(0));
        Check.is(1, () -> x.insert(1, 0, 1, 1));
        Check.refused(Check.INDEX, x, () -> x.insert(0, 6, 1, 1));
        Check.refused(Check.INDEX, x, () -> x.insert(0, -1, 1, 1));
        Check.refused(Check.INDEX, x, () -> x.insert(4, 0, 1, 1));
        Check.refused(Check.INDEX, x, () -> x.insert(0, Integer.MAX_VALUE, 100, 1));
        Check.refused(Check.ARGUMENT, x, () -> x.insert(0, 0, 100, 1));
        Check.refused(Check.ARGUMENT, x, () -> x.insert(0, 0, 1, 10));
        Rowtricks full = Make.full();
        Check.refused(Check.STATE, full, () -> full.insert(0, 31, 1, 1));
        Check.refused(Check.STATE, full, () -> full.insert(0, 0, 1, 1));
        Check.refused(Check.INDEX, full, () -> full.insert(0, 32, 1, 1));
        Check.refused(Check.ARGUMENT, full, () -> full.insert(0, 31, -1, 1));
        full.remove(0, 30);
        Check.is(31, () -> full.insert(0, 0, 1, 1));
        Check.is(1, () -> full.at(0, 0, false));
        Check.is(5, () -> full.at(0, 30, false));
        Rowtricks w = watched(10, 20);
        w.insert(0, 2, 3, 0);
        isReshaped(w);
    }

    private static void remove() {
        Rowtricks x = Make.row0(10, 21, 32);
        Check.is(2, () -> x.remove(0, 1));
        Check.is("[1.0, 3.2]", () -> x.text(0));
        Check.refused(Check.INDEX, x, () -> x.remove(0, 2));
        Check.refused(Check.INDEX, x, () -> x.remove(0, -1));
        Check.refused(Check.INDEX, x, () -> x.remove(1, 0));
        Check.refused(Check.INDEX, x, () -> x.remove(4, 0));
        Check.is(3, () -> x.remove(0, 1));
        Check.is(1, () -> x.remove(0, 0));
        Check.is("[]", () -> x.text(0));
        Check.refused(Check.INDEX, x, () -> x.remove(0, 0));
        Rowtricks w = watched(10, 20);
        w.remove(0, 1);
        isReshaped(w);
    }

    private static void set() {
        Rowtricks x = Make.row0(10, 21);
        Check.is(2, () -> x.set(0, 1, 9, 8));
        Check.is("[1.0, 9.8]", () -> x.text(0));
        Check.is(9, () -> x.set(0, 1, 9, 7));
        Check.is("[1.0, 9.7]", () -> x.text(0));
        Check.refused(Check.INDEX, x, () -> x.set(0, 2, 1, 1));
        Check.refused(Check.INDEX, x, () -> x.set(0, -1, 1, 1));
        Check.refused(Check.INDEX, x, () -> x.set(-1, 0, 1, 1));
        Check.refused(Check.INDEX, x, () -> x.set(0, 2, 100, 1));
        Check.refused(Check.ARGUMENT, x, () -> x.set(0, 0, 100, 1));
        Check.refused(Check.ARGUMENT, x, () -> x.set(0, 0, 1, -1));
        Rowtricks w = watched(10, 20);
        w.set(0, 0, 1, 0);
        isLoosened(w);
    }

    private static void clear() {
        Rowtricks x = Make.row0(10, 20);
        Check.is(2, () -> x.clear(0));
        Check.is("[]", () -> x.text(0));
        Check.is(0, () -> x.clear(0));
        Check.refused(Check.INDEX, x, () -> x.clear(4));
        Check.refused(Check.INDEX, x, () -> x.clear(-1));
        Rowtricks w = watched(10, 20);
        w.clear(0);
        isReshaped(w);
        Rowtricks empty = watched();
        empty.clear(0);
        isLoosened(empty);
    }

    private static void addTwo() {
        Rowtricks x = new Rowtricks();
        Check.is(2, () -> x.addTwo(0, 1, 2, 3, 4));
        Check.is("[1.2, 3.4]", () -> x.text(0));
        Check.refused(Check.INDEX, x, () -> x.addTwo(4, 1, 1, 100, 1));
        Check.refused(Check.ARGUMENT, x, () -> x.addTwo(0, 100, 1, 1, 1));
        Check.refused(Check.ARGUMENT, x, () -> x.addTwo(0, 1, 10, 1, 1));
        Check.refused(Check.ARGUMENT, x, () -> x.addTwo(0, 1, 1, -1, 1));
        Check.refused(Check.ARGUMENT, x, () -> x.addTwo(0, 1, 1, 1, -1));
        Rowtricks nearly = new Rowtricks();
        nearly.addCopies(0, 30, 1, 1);
        Check.refused(Check.STATE, nearly, () -> nearly.addTwo(0, 1, 1, 2, 2));
        Check.refused(Check.ARGUMENT, nearly, () -> nearly.addTwo(0, 1, 1, 2, 10));
        nearly.remove(0, 0);
        Check.is(31, () -> nearly.addTwo(0, 1, 1, 2, 2));
        Rowtricks w = watched(10, 20);
        w.addTwo(0, 3, 0, 4, 0);
        isReshaped(w);
    }

    private static void addCopies() {
        Rowtricks x = new Rowtricks();
        Check.is(3, () -> x.addCopies(0, 3, 4, 5));
        Check.is("[4.5, 4.5, 4.5]", () -> x.text(0));
        Check.is(3, () -> x.addCopies(0, 0, 4, 5));
        Check.refused(Check.INDEX, x, () -> x.addCopies(4, 32, 1, 1));
        Check.refused(Check.ARGUMENT, x, () -> x.addCopies(0, 32, 1, 1));
        Check.refused(Check.ARGUMENT, x, () -> x.addCopies(0, -1, 1, 1));
        Check.refused(Check.ARGUMENT, x, () -> x.addCopies(0, 0, 100, 1));
        Check.refused(Check.ARGUMENT, x, () -> x.addCopies(0, 0, 1, 10));
        Check.refused(Check.STATE, x, () -> x.addCopies(0, 29, 1, 1));
        Check.is(31, () -> x.addCopies(0, 28, 1, 1));
        Check.is(31, () -> x.addCopies(0, 0, 1, 1));
        Check.is(31, () -> x.addCopies(1, 31, 1, 1));
        Rowtricks w = watched(10, 20);
        w.addCopies(0, 1, 3, 0);
        isReshaped(w);
        Rowtricks none = watched(10, 20);
        none.addCopies(0, 0, 3, 0);
        isLoosened(none);
    }

    private static void append() {
        Rowtricks x = Make.row0(10, 20);
        Make.row(x, 1, 30, 41);
        x.sort(1, false);
        x.part(0, 1, 0, 2);
        x.walk(1);
        Check.is(4, () -> x.append(0, 1));
        Check.is("[1.0, 2.0, 3.0, 4.1]", () -> x.text(0));
        Check.is("[3.0, 4.1]", () -> x.textIn(0));
        Check.is(1, () -> x.state(1));
        Check.is(1, () -> x.hasStep(1));
        Check.refused(Check.INDEX, x, () -> x.append(0, 4));
        Check.refused(Check.INDEX, x, () -> x.append(4, 0));
        Check.refused(Check.INDEX, x, () -> x.append(-1, -1));
        Check.refused(Check.ARGUMENT, x, () -> x.append(0, 0));
        Rowtricks full = Make.full();
        full.add(1, 1, 1);
        Check.refused(Check.STATE, full, () -> full.append(0, 1));
        Check.refused(Check.ARGUMENT, full, () -> full.append(0, 0));
        Check.is(31, () -> full.append(0, 2));
        Check.is(31, () -> full.append(2, 0));
        Rowtricks w = watched(10, 20);
        w.append(0, 3);
        isReshaped(w);
        Rowtricks none = watched(10, 20);
        none.append(0, 2);
        isLoosened(none);
    }

    private static void copy() {
        Rowtricks x = Make.row0(10, 20, 30);
        Make.row(x, 1, 41);
        Check.is(1, () -> x.copy(0, 1));
        Check.is("[4.1]", () -> x.text(0));
        x.set(1, 0, 5, 5);
        Check.is("[4.1]", () -> x.text(0));
        Check.is(0, () -> x.copy(0, 2));
        Check.is("[]", () -> x.text(0));
        Check.refused(Check.INDEX, x, () -> x.copy(0, 4));
        Check.refused(Check.INDEX, x, () -> x.copy(4, 4));
        Check.refused(Check.ARGUMENT, x, () -> x.copy(1, 1));
        Rowtricks w = watched(11);
        w.copy(0, 3);
        isReshaped(w);
        Rowtricks empty = watched();
        empty.copy(0, 1);
        isReshaped(empty);
    }

    private static void fill() {
        Rowtricks x = Make.row0(10, 20, 30);
        Check.is(3, () -> x.fill(0, 9, 8));
        Check.is("[9.8, 9.8, 9.8]", () -> x.text(0));
        Check.is(0, () -> x.fill(1, 9, 8));
        Check.refused(Check.INDEX, x, () -> x.fill(4, 100, 1));
        Check.refused(Check.ARGUMENT, x, () -> x.fill(0, 100, 1));
        Check.refused(Check.ARGUMENT, x, () -> x.fill(1, 1, 10));
        Rowtricks w = watched(10, 20);
        w.fill(0, 9, 9);
        isLoosened(w);
        Rowtricks empty = watched();
        empty.fill(0, 9, 9);
        isLoosened(empty);
    }

    private static void replace() {
        Rowtricks x = Make.row0(10, 11, 10, 20);
        Check.is(true, () -> x.replace(0, 1, 0, 7, 7));
        Check.is("[7.7, 1.1, 7.7, 2.0]", () -> x.text(0));
        Check.is(false, () -> x.replace(0, 1, 0, 7, 7));
        Check.is(true, () -> x.replace(0, 2, 0, 2, 0));
        Check.is(false, () -> x.replace(1, 2, 0, 2, 0));
        x.add(0, 3, 0);
        x.remove(0, 4);
        Check.is(false, () -> x.replace(0, 3, 0, 2, 0));
        Check.refused(Check.INDEX, x, () -> x.replace(4, 100, 1, 1, 1));
        Check.refused(Check.ARGUMENT, x, () -> x.replace(0, 100, 1, 1, 1));
        Check.refused(Check.ARGUMENT, x, () -> x.replace(0, 1, 10, 1, 1));
        Check.refused(Check.ARGUMENT, x, () -> x.replace(0, 7, 7, -1, 1));
        Check.refused(Check.ARGUMENT, x, () -> x.replace(0, 7, 7, 1, -1));
        Rowtricks w = watched(10, 20);
        w.replace(0, 1, 0, 9, 9);
        isLoosened(w);
        Rowtricks none = watched(10, 20);
        none.replace(0, 9, 9, 1, 0);
        isLoosened(none);
    }

    private static void reverse() {
        Rowtricks x = Make.row0(10, 20, 30);
        Check.is(3, () -> x.reverse(0));
        Check.is("[3.0, 2.0, 1.0]", () -> x.text(0));
        x.add(0, 4, 0);
        Check.is(4, () -> x.reverse(0));
        Check.is("[4.0, 1.0, 2.0, 3.0]", () -> x.text(0));
        Check.is(-1, () -> x.reverse(1));
        Check.refused(Check.INDEX, x, () -> x.reverse(4));
        Check.refused(Check.INDEX, x, () -> x.reverse(-1));
        Rowtricks w = watched(10, 20);
        w.reverse(0);
        isLoosened(w);
        Rowtricks empty = watched();
        empty.reverse(0);
        isLoosened(empty);
    }

    private static void rotate() {
        Rowtricks x = Make.row0(10, 20, 30, 40, 50);
        Check.is(5, () -> x.rotate(0, 1));
        Check.is("[5.0, 1.0, 2.0, 3.0, 4.0]", () -> x.text(0));
        Check.is(1, () -> x.rotate(0, -1));
        Check.is("[1.0, 2.0, 3.0, 4.0, 5.0]", () -> x.text(0));
        Check.is(4, () -> x.rotate(0, 7));
        Check.is("[4.0, 5.0, 1.0, 2.0, 3.0]", () -> x.text(0));
        Check.is(4, () -> x.rotate(0, 0));
        Check.is(4, () -> x.rotate(0, -10));
        // 2147483647 is 2 more than a multiple of 5, -2147483648 is 2 more than one
        Check.is(2, () -> x.rotate(0, Integer.MAX_VALUE));
        Check.is(5, () -> x.rotate(0, Integer.MIN_VALUE));
        Check.is("[5.0, 1.0, 2.0, 3.0, 4.0]", () -> x.text(0));
        Check.is(-1, () -> x.rotate(1, Integer.MIN_VALUE));
        Check.is(-1, () -> x.rotate(1, 0));
        Check.refused(Check.INDEX, x, () -> x.rotate(4, 1));
        Check.refused(Check.INDEX, x, () -> x.rotate(-1, 1));
        Rowtricks w = watched(10, 20);
        w.rotate(0, 0);
        isLoosened(w);
        Rowtricks empty = watched();
        empty.rotate(0, 1);
        isLoosened(empty);
    }

    private static void swap() {
        Rowtricks x = Make.row0(10, 20, 30);
        Check.is(3, () -> x.swap(0, 0, 2));
        Check.is("[3.0, 2.0, 1.0]", () -> x.text(0));
        Check.is(2, () -> x.swap(0, 1, 1));
        Check.refused(Check.INDEX, x, () -> x.swap(0, 3, 0));
        Check.refused(Check.INDEX, x, () -> x.swap(0, 0, 3));
        Check.refused(Check.INDEX, x, () -> x.swap(0, -1, 0));
        Check.refused(Check.INDEX, x, () -> x.swap(0, 0, -1));
        Check.refused(Check.INDEX, x, () -> x.swap(4, 0, 0));
        Check.refused(Check.INDEX, x, () -> x.swap(1, 0, 0));
        Rowtricks w = watched(10, 20);
        w.swap(0, 1, 1);
        isLoosened(w);
    }

    private static void sort() {
        Rowtricks x = Make.row0(52, 41, 50, 60, 51, 49);
        Check.is(4, () -> x.sort(0, false));
        Check.is("[4.1, 4.9, 5.2, 5.0, 5.1, 6.0]", () -> x.text(0));
        Check.is(1, () -> x.state(0));
        Check.is(6, () -> x.sort(0, true));
        Check.is("[6.0, 5.2, 5.0, 5.1, 4.1, 4.9]", () -> x.text(0));
        Check.is(2, () -> x.state(0));
        Check.is(-1, () -> x.sort(1, true));
        Check.is(2, () -> x.state(1));
        Check.refused(Check.INDEX, x, () -> x.sort(4, true));
        Check.refused(Check.INDEX, x, () -> x.sort(-1, false));
        Rowtricks w = watched(10, 20);
        w.sort(0, false);
        Check.is(1, () -> w.state(0));
        Check.is("-", () -> w.textIn(0));
        Check.is(-1, () -> w.hasStep(0));
        othersAre(w);
        Rowtricks empty = watched();
        empty.sort(0, false);
        Check.is("-", () -> empty.textIn(0));
        Check.is(-1, () -> empty.hasStep(0));
    }
}
