/** Promises 43 to 52: views and walks, the house. */
public final class ViewsTest {
    public static void main(String[] args) {
        refuse();
        viewText();
        viewFrequency();
        walk();
        step();
        hasStep();
        house();
        knock();
        isSound();
        digest();
        Check.end();
    }

    private static void refuse() {
        Rowtricks x = Make.row0(0, 10);
        x.sort(0, false);
        x.part(0, 0, 0, 2);
        x.walk(0);
        for (int what = 0; what <= 5; what++) {
            int w = what;
            Check.refused("-9", x, () -> x.refuse(0, w, 1));
        }
        Check.refused("-9", x, () -> x.refuse(1, 3, 0));
        Check.refused("-9", x, () -> x.refuse(0, 4, 0));
        Rowtricks y = Make.row0(10);
        Check.refused(Check.INDEX, y, () -> y.refuse(4, 6, 0));
        Check.refused(Check.INDEX, y, () -> y.refuse(0, 6, 4));
        Check.refused(Check.INDEX, y, () -> y.refuse(0, 0, -1));
        Check.refused(Check.ARGUMENT, y, () -> y.refuse(0, 6, 0));
        Check.refused(Check.ARGUMENT, y, () -> y.refuse(0, -1, 0));
    }

    private static void viewText() {
        Rowtricks x = Make.row0(10, 999);
        Check.is("[1.0, 99.9]", () -> x.viewText(0));
        x.add(0, 2, 2);
        x.reverse(0);
        Check.is("[2.2, 99.9, 1.0]", () -> x.viewText(0));
        Check.is("[]", () -> x.viewText(1));
        Check.refused(Check.INDEX, x, () -> x.viewText(4));
        Check.refused(Check.INDEX, x, () -> x.viewText(-1));
    }

    private static void viewFrequency() {
        Rowtricks x = Make.row0(10, 11, 10);
        Check.is(2, () -> x.viewFrequency(0, 1, 0));
        Check.is(1, () -> x.viewFrequency(0, 1, 1));
        Check.is(0, () -> x.viewFrequency(1, 1, 1));
        x.fill(0, 1, 1);
        Check.is(3, () -> x.viewFrequency(0, 1, 1));
        Check.refused(Check.INDEX, x, () -> x.viewFrequency(4, 100, 0));
        Check.refused(Check.ARGUMENT, x, () -> x.viewFrequency(0, 100, 0));
        Check.refused(Check.ARGUMENT, x, () -> x.viewFrequency(0, 1, 10));
    }

    private static void walk() {
        Rowtricks x = Make.row0(10, 20);
        Check.is(2, () -> x.walk(0));
        x.step(0);
        Check.is(2, () -> x.walk(0));
        Check.is(1, () -> x.step(0));
        Check.is(0, () -> x.walk(1));
        Check.refused(Check.INDEX, x, () -> x.walk(4));
        Check.refused(Check.INDEX, x, () -> x.walk(-1));
    }

    private static void step() {
        Rowtricks x = Make.row0(10, 20, 30);
        Check.refused(Check.STATE, x, () -> x.step(0));
        Check.refused(Check.INDEX, x, () -> x.step(4));
        x.walk(0);
        Check.is(1, () -> x.step(0));
        x.set(0, 1, 9, 9);
        Check.is(9, () -> x.step(0));
        x.rotate(0, 1);
        Check.is(9, () -> x.step(0));
        Check.is(-9, () -> x.step(0));
        Check.is(-9, () -> x.step(0));
        Check.is(0, () -> x.hasStep(0));
        Check.refused(Check.STATE, x, () -> x.step(1));
        x.walk(1);
        Check.is(-9, () -> x.step(1));
        x.walk(0);
        x.add(0, 4, 4);
        Check.refused(Check.STATE, x, () -> x.step(0));
    }

    private static void hasStep() {
        Rowtricks x = Make.row0(10);
        Check.is(-1, () -> x.hasStep(0));
        x.walk(0);
        Check.is(1, () -> x.hasStep(0));
        x.step(0);
        Check.is(0, () -> x.hasStep(0));
        x.walk(1);
        Check.is(0, () -> x.hasStep(1));
        x.clear(1);
        Check.is(0, () -> x.hasStep(1));
        Check.refused(Check.INDEX, x, () -> x.hasStep(4));
        Check.refused(Check.INDEX, x, () -> x.hasStep(-1));
    }

    private static void house() {
        Rowtricks x = Make.row0(10, 20);
        Make.row(x, 3, 30);
        Check.is(3, () -> x.house(0));
        x.part(0, 0, 0, 2);
        x.inner(2, 0, 1, 1);
        Check.is(2, () -> x.house(1));
        x.walk(1);
        x.walk(3);
        x.step(3);
        Check.is(2, () -> x.house(2));
        x.knock();
        x.knock();
        Check.is(2, () -> x.house(3));
        x.drop(0);
        Check.is(0, () -> x.house(1));
        x.clear(3);
        Check.is(1, () -> x.house(2));
        Check.is(2, () -> x.house(0));
        Check.refused(Check.ARGUMENT, x, () -> x.house(4));
        Check.refused(Check.ARGUMENT, x, () -> x.house(-1));
    }

    private static void knock() {
        Rowtricks x = new Rowtricks();
        Check.is(1, x::knock);
        Check.is(2, x::knock);
        Check.is(3, x::knock);
        Check.is(1, () -> new Rowtricks().knock());
    }

    private static void isSound() {
        Rowtricks x = new Rowtricks();
        Check.is(true, x::isSound);
        x.addCopies(0, 31, 5, 5);
        Make.row(x, 1, 30, 11, 20, 40, 31);
        x.part(0, 1, 1, 4);
        x.inner(1, 0, 1, 2);
        x.part(2, 2, 0, 0);
        Check.is(true, x::isSound);
        x.cut(1);
        Check.is(true, x::isSound);
    }

    private static void digest() {
        Rowtricks x = new Rowtricks();
        Check.is(byTheDocument(x), x::digest);
        Make.row(x, 0, 10, 20, 999);
        Make.row(x, 1, 20);
        Make.row(x, 3, 71);
        x.sort(0, true);
        x.sort(3, false);
        x.part(0, 0, 0, 3);
        x.inner(2, 0, 1, 2);
        x.walk(0);
        x.walk(2);
        x.knock();
        Check.is(byTheDocument(x), x::digest);
        Check.is(x.digest(), x::digest);
    }

    /** The checksum, made of what the other calls answer. */
    private static long byTheDocument(Rowtricks x) {
        long d = 7710;
        for (int what = 0; what < 4; what++) {
            d = d * 31 + x.house(what);
        }
        for (int row = 0; row < 4; row++) {
            d = signs(d, x.text(row)) * 31 + x.state(row);
            d = d * 31 + x.most(row, false);
            d = d * 31 + x.most(row, true);
            d = d * 31 + x.hasStep(row);
        }
        for (int row = 0; row < 4; row++) {
            for (int other = 0; other < 4; other++) {
                d = d * 31 + (x.disjoint(row, other) ? 1 : 0);
                d = d * 31 + x.indexOfRow(row, other);
            }
        }
        for (int part = 0; part < 3; part++) {
            d = signs(d, x.textIn(part));
        }
        return d * 31 + (x.isSound() ? 1 : 0);
    }

    private static long signs(long d, String text) {
        long mixed = d;
        for (char sign : text.toCharArray()) {
            mixed = mixed * 31 + sign;
        }
        return mixed;
    }
}
