import java.io.IOException;
import java.math.BigInteger;

/** Promises 43 to 52, sentence by sentence: each edge that the document names. */
public final class EdgesOfViewsTest {
    private static final String NO_ROW = "Throws IndexOutOfBoundsException if there is no such ROW";
    private static final BigInteger FACTOR = BigInteger.valueOf(31);

    public static void main(String[] args) throws IOException {
        Edge.read(new Document(args[0]));
        refuse();
        refuseWhereItIsRefused();
        viewText();
        viewFrequency();
        walk();
        step();
        hasStep();
        house();
        knock();
        isSound();
        digest();
        Edge.areWhole(43, 52);
        Check.end();
    }

    private static void refuse() {
        Edge.promise(43);
        Edge.says("- what: 0 to put the card 0.0 in the place 0, 1 to add it, 2 to take the card in the place 0 away, "
            + "3 to clear it, 4 to add all of the ROW other, 5 to SORT it");
        Edge.says("Returns what the VIEW tells to that: -9.");
        // rows with cards, full, empty, and one and the same twice: also where nothing would be other then
        for (int wish = 0; wish <= 5; wish++) {
            int what = wish;
            Edge.refused(-9, Make::rich, x -> x.refuse(0, what, 1));
            Edge.refused(-9, Make::rich, x -> x.refuse(0, what, 3));
            Edge.refused(-9, Make::rich, x -> x.refuse(2, what, 2));
            Edge.refused(-9, Make::rich, x -> x.refuse(3, what, 3));
            Edge.refused(-9, () -> Make.row0(0), x -> x.refuse(0, what, 1));
        }
    }

    private static void refuseWhereItIsRefused() {
        Edge.says("Throws IndexOutOfBoundsException if there is no such ROW (both)");
        Edge.limits(Check.INDEX, Make::rich, 0, -9, 3, -9, (x, row) -> x.refuse(row, 0, 0));
        Edge.limits(Check.INDEX, Make::rich, 0, -9, 3, -9, (x, other) -> x.refuse(0, 0, other));
        Edge.beyond(Check.INDEX, Make::rich, 0, 3, (x, row) -> x.refuse(row, 6, 0));
        Edge.beyond(Check.INDEX, Make::rich, 0, 3, (x, other) -> x.refuse(0, -1, other));
        Edge.says("Throws IllegalArgumentException if what is not 0 to 5");
        Edge.limits(Check.ARGUMENT, Make::rich, 0, -9, 5, -9, (x, what) -> x.refuse(0, what, 0));
        Edge.isWhole();
    }

    private static void viewText() {
        Edge.promise(44);
        Edge.says("Returns what its VIEW shows, as a text.");
        Edge.tells("[]", Make::rich, x -> x.viewText(3));
        Edge.tells(true, Make::rich, x -> x.viewText(2).equals(x.text(2)));
        Edge.tells("[1.0, 2.1, 2.0, 7.7, 9.9]", Make::rich, x -> {
            x.setIn(1, 1, 7, 7);
            return x.viewText(0);
        });
        Edge.tells("[1.0]", Make::rich, x -> {
            x.cut(0);
            return x.viewText(0);
        });
        Edge.says(NO_ROW);
        Edge.limits(Check.INDEX, Make::rich, 0, "[1.0, 2.1, 2.0, 5.0, 9.9]", 3, "[]", (x, row) -> x.viewText(row));
        Edge.isWhole();
    }

    private static void viewFrequency() {
        Edge.promise(45);
        Edge.says("Returns how many cards of its VIEW are the SAME as that one.");
        Edge.tells(0, Make::rich, x -> x.viewFrequency(3, 0, 0));
        Edge.tells(31, Make::full, x -> x.viewFrequency(0, 5, 5));
        Edge.tells(0, Make::full, x -> x.viewFrequency(0, 5, 4));
        Edge.says(NO_ROW);
        Edge.limits(Check.INDEX, Make::rich, 0, 1, 3, 0, (x, row) -> x.viewFrequency(row, 1, 0));
        Edge.refused(Check.INDEX, Make::rich, x -> x.viewFrequency(4, 100, 10));
        Edge.says("Throws IllegalArgumentException if value is not 0 to 99, or mark not 0 to 9");
        Edge.limits(Check.ARGUMENT, Make::rich, 0, 1, 99, 0, (x, value) -> x.viewFrequency(2, value, 0));
        Edge.limits(Check.ARGUMENT, Make::rich, 0, 0, 9, 1, (x, mark) -> x.viewFrequency(2, 29, mark));
        Edge.isWhole();
    }

    private static void walk() {
        Edge.promise(46);
        Edge.says("Returns how many cards its VIEW shows.");
        Edge.tells(0, Make::rich, x -> x.walk(3));
        Edge.tells(31, Make::rich, x -> x.walk(2));
        Edge.tells("5 1", Make::rich, x -> x.walk(0) + " " + x.step(0));
        Edge.tells("3 8", Make::rich, x -> x.walk(1) + " " + x.step(1));
        Edge.says(NO_ROW);
        Edge.limits(Check.INDEX, Make::rich, 0, 5, 3, 0, (x, row) -> x.walk(row));
        Edge.isWhole();
    }

    private static void step() {
        Edge.promise(47);
        Edge.says("Returns the VALUE of the next card; -9 behind the last one.");
        Edge.tells("2 5 9 -9 -9", Make::rich,
            x -> x.step(0) + " " + x.step(0) + " " + x.step(0) + " " + x.step(0) + " " + x.step(0));
        Edge.refused(-9, Make::rich, x -> x.step(1));
        Edge.refused(-9, Make::rich, x -> x.step(3));
        Edge.tells("30 -9", Make::rich, x -> {
            x.walk(2);
            for (int place = 0; place < 30; place++) {
                Check.is(place, () -> x.step(2));
            }
            return x.step(2) + " " + x.step(2);
        });
        Edge.says(NO_ROW);
        Edge.limits(Check.INDEX, Make::rich, 0, 2, 3, -9, (x, row) -> x.step(row));
        Edge.says("Throws IllegalStateException if there is no walk");
        Edge.refused(Check.STATE, Make::rich, x -> x.step(2));
        Edge.refused(Check.STATE, Rowtricks::new, x -> x.step(0));
        Edge.refused(Check.STATE, Rowtricks::new, x -> x.step(3));
        Edge.isWhole();
    }

    private static void hasStep() {
        Edge.promise(48);
        Edge.says("Returns 1 if its walk has a next card, 0 if not; NONE without a walk.");
        Edge.tells("1 0 -1 0", Make::rich,
            x -> x.hasStep(0) + " " + x.hasStep(1) + " " + x.hasStep(2) + " " + x.hasStep(3));
        Edge.tells("5 1 9 0", Make::rich, x -> {
            x.step(0);
            return x.step(0) + " " + x.hasStep(0) + " " + x.step(0) + " " + x.hasStep(0);
        });
        Edge.tells("31 1", Make::rich, x -> x.walk(2) + " " + x.hasStep(2));
        Edge.says(NO_ROW);
        Edge.limits(Check.INDEX, Make::rich, 0, 1, 3, 0, (x, row) -> x.hasStep(row));
        Edge.isWhole();
    }

    private static String whole(Rowtricks x) {
        return x.house(0) + " " + x.house(1) + " " + x.house(2) + " " + x.house(3);
    }

    private static void house() {
        Edge.promise(49);
        Edge.says("- what: 0 cards of all ROWS, 1 PARTS that are there, 2 walks that are there, 3 how often one knocked");
        Edge.says("Returns that.");
        Edge.tells("0 0 0 0", Rowtricks::new, EdgesOfViewsTest::whole);
        Edge.tells("39 3 3 2", Make::rich, EdgesOfViewsTest::whole);
        Edge.tells("39 3 3 2", Make::hollow, EdgesOfViewsTest::whole);
        Edge.tells("39 2 3 2", Make::gone, EdgesOfViewsTest::whole);
        Edge.tells("39 1 3 2", Make::rich, x -> {
            x.drop(0);
            return whole(x);
        });
        Edge.tells("40 1 2 2", Make::rich, x -> {
            x.add(0, 1, 1);
            return whole(x);
        });
        Edge.tells("124 0 4 3", Rowtricks::new, x -> {
            for (int row = 0; row < 4; row++) {
                x.addCopies(row, 31, 1, 1);
                x.walk(row);
            }
            x.knock();
            x.knock();
            x.knock();
            return whole(x);
        });
        Edge.says("Throws IllegalArgumentException if what is not 0 to 3");
        Edge.limits(Check.ARGUMENT, Make::rich, 0, 39, 3, 2, (x, what) -> x.house(what));
        Edge.isWhole();
    }

    private static void knock() {
        Edge.promise(50);
        Edge.says("Returns how often one knocked, with this.");
        Edge.tells("1 2", Rowtricks::new, x -> x.knock() + " " + x.knock());
        Edge.tells("3 3", Make::rich, x -> x.knock() + " " + x.house(3));
        Rowtricks often = new Rowtricks();
        for (int time = 1; time <= 511; time++) {
            Check.is(time, often::knock);
        }
        Check.is(511, () -> often.house(3));
        // a knock is heard in the house, and nowhere else
        Rowtricks x = Make.rich();
        Rowtricks y = Make.rich();
        x.knock();
        y.knock();
        Check.is(y.digest(), x::digest);
        Check.is("[1.0, 2.1, 2.0, 5.0, 9.9] 1 1 [2.0, 5.0]",
            () -> x.text(0) + " " + x.state(0) + " " + x.hasStep(0) + " " + x.textIn(1));
        Edge.isWhole();
    }

    private static void isSound() {
        Edge.promise(51);
        Edge.says("Returns whether all of this is so: each VIEW is as its ROW; a copy of each ROW, TURNED round twice, "
            + "PUSHED ON by 5 and by -5, is as the ROW; SORTED UP, each card stands there as often as in the ROW, and its "
            + "first card, if there is one, has the least VALUE; each PART that is there stands in its ROW.");
        Edge.refused(true, Rowtricks::new, x -> x.isSound());
        Edge.refused(true, Make::rich, x -> x.isSound());
        Edge.refused(true, Make::hollow, x -> x.isSound());
        Edge.refused(true, Make::gone, x -> x.isSound());
        Edge.refused(true, Make::full, x -> x.isSound());
        // rows of 1 to 31 cards, so that 5 is less than, as much as, and more than how many there are
        Rowtricks x = new Rowtricks();
        for (int many = 1; many <= 31; many++) {
            x.insert(many % 2, 0, many * 7 % 100, many % 10);
            x.add(2, many * 37 % 100, many % 3);
            x.part(many % 3, 2, many / 2, many);
            Check.is(true, x::isSound);
        }
        Edge.isWhole();
    }

    private static void digest() {
        Edge.promise(52);
        Edge.says("Returns d.");
        isByTheDocument(new Rowtricks());
        isByTheDocument(Make.rich());
        isByTheDocument(Make.hollow());
        isByTheDocument(Make.gone());
        isByTheDocument(Make.full());
        Rowtricks x = new Rowtricks();
        for (int row = 0; row < 4; row++) {
            x.addCopies(row, 31, 99, 9);
        }
        isByTheDocument(x);
        Edge.refused(Make.rich().digest(), Make::rich, Rowtricks::digest);
        Edge.isWhole();
    }

    /** The number d without an end to its size; of it the last 64 bits are what wraps around. */
    private static void isByTheDocument(Rowtricks x) {
        BigInteger d = BigInteger.valueOf(7710);
        for (int what = 0; what < 4; what++) {
            d = mixed(d, x.house(what));
        }
        for (int row = 0; row < 4; row++) {
            d = mixed(mixed(d, x.text(row)), x.state(row));
            d = mixed(mixed(d, x.most(row, false)), x.most(row, true));
            d = mixed(d, x.hasStep(row));
        }
        for (int row = 0; row < 4; row++) {
            for (int other = 0; other < 4; other++) {
                d = mixed(mixed(d, x.disjoint(row, other) ? 1 : 0), x.indexOfRow(row, other));
            }
        }
        for (int part = 0; part < 3; part++) {
            d = mixed(d, x.textIn(part));
        }
        d = mixed(d, x.isSound() ? 1 : 0);
        Check.compare("true", String.valueOf(d.bitLength() > 64));
        Check.is(d.longValue(), x::digest);
    }

    private static BigInteger mixed(BigInteger d, int v) {
        return d.multiply(FACTOR).add(BigInteger.valueOf(v));
    }

    private static BigInteger mixed(BigInteger d, String signs) {
        BigInteger mixed = d;
        for (char sign : signs.toCharArray()) {
            mixed = mixed(mixed, (int) sign);
        }
        return mixed;
    }
}
