import java.io.IOException;
import java.util.ArrayList;
import java.util.List;

/** The description, sentence by sentence; in the end none of it may be without a test. */
public final class DescriptionTest {
    private static final List<String> said = new ArrayList<>();

    public static void main(String[] args) throws IOException {
        cards();
        theSame();
        texts();
        signs();
        exceptions();
        pushed();
        turnedAndSorted();
        stateIsKept();
        stateIsLost();
        stateIsLostThoughNoCardIsAnother();
        standsIn();
        spans();
        gone();
        reshaped();
        reshapedWithoutCards();
        notReshaped();
        cut();
        cutAmongOthers();
        cutOfNone();
        shows();
        views();
        walks();
        isWhole(new Document(args[0]));
        Check.end();
    }

    private static void says(String sentence) {
        said.add(sentence);
    }

    /** What is left of the description, as all that was said is taken out of it, may be headings alone. */
    private static void isWhole(Document document) {
        for (String line : document.description()) {
            String left = line;
            for (String sentence : said) {
                left = left.replace(sentence, "");
            }
            boolean isHeading = line.startsWith("== ") || line.startsWith("The constructor and the methods follow");
            Check.compare("", isHeading ? "" : left.strip());
        }
        for (String sentence : said) {
            Check.compare("true " + sentence, document.description().toString().contains(sentence) + " " + sentence);
        }
    }

    /** STATE of each row, its walk, and which parts are there (+) and GONE (-). */
    private static String found(Rowtricks x) {
        StringBuilder ink = new StringBuilder();
        for (int row = 0; row < 4; row++) {
            ink.append(x.state(row));
        }
        for (int row = 0; row < 4; row++) {
            ink.append(' ').append(x.hasStep(row));
        }
        ink.append(' ');
        for (int part = 0; part < 3; part++) {
            ink.append(x.sizeIn(part) == -1 ? '-' : '+');
        }
        return ink.toString();
    }

    private static void isFound(String due, Edge.Base base, Edge.Call... calls) {
        for (Edge.Call call : calls) {
            Rowtricks x = base.made();
            call.of(x);
            Check.is(due, () -> found(x));
        }
    }

    private static void cards() {
        says("ROWS are numbered 0 to 3, each with at most 31 cards, in places from 0 on.");
        Edge.limits(Check.INDEX, Make::rich, 0, "[1.0, 2.1, 2.0, 5.0, 9.9]", 3, "[]", (x, row) -> x.text(row));
        for (int full = 0; full < 4; full++) {
            int row = full;
            Edge.tells("31 1 5", Rowtricks::new,
                x -> x.addCopies(row, 31, 1, 5) + " " + x.at(row, 0, false) + " " + x.at(row, 30, true));
            Edge.refused(Check.STATE, () -> {
                Rowtricks x = new Rowtricks();
                x.addCopies(row, 31, 1, 5);
                return x;
            }, x -> x.add(row, 1, 5));
        }
        says("A CARD has a VALUE (0 to 99) and a MARK (0 to 9).");
        Rowtricks x = new Rowtricks();
        for (int value = 0; value <= 99; value++) {
            int v = value;
            x.clear(0);
            x.add(0, v, v % 10);
            Check.is(v + "." + v % 10, () -> x.at(0, 0, false) + "." + x.at(0, 0, true));
        }
    }

    private static void theSame() {
        says("Two cards are the SAME, if both are alike; by their order they are compared by VALUES alone.");
        Edge.tells("1 0 0", () -> Make.row0(75),
            x -> x.frequency(0, 7, 5) + " " + x.frequency(0, 7, 4) + " " + x.frequency(0, 6, 5));
        Edge.tells("[7.9, 7.0, 7.5]", () -> Make.row0(79, 70, 75), x -> {
            x.sort(0, false);
            return x.text(0);
        });
        Edge.tells("[7.9, 7.0, 7.5]", () -> Make.row0(79, 70, 75), x -> {
            x.sort(0, true);
            return x.text(0);
        });
        Edge.tells("[6.9, 7.0]", () -> Make.row0(70, 69), x -> {
            x.sort(0, false);
            return x.text(0);
        });
    }

    private static void texts() {
        says("As a text a card is its VALUE, \".\", its MARK (\"7.0\"), a row \"[\", its cards with \", \" between, \"]\".");
        Edge.tells("[]", Rowtricks::new, x -> x.text(0));
        Edge.tells("[7.0]", () -> Make.row0(70), x -> x.text(0));
        Edge.tells("[0.7, 99.9, 10.0]", () -> Make.row0(7, 999, 100), x -> x.text(0));
    }

    private static void signs() {
        says("NONE is -1.");
        Edge.tells("-1 -1 -1 -1", Rowtricks::new,
            x -> x.reverse(0) + " " + x.indexOf(0, 1, 1, true) + " " + x.sizeIn(0) + " " + x.hasStep(0));
        says("-9 (REFUSED) is told where a call is LET, but cannot be done: nothing changes then.");
        Edge.refused(-9, Make::rich, x -> x.setIn(0, 4, 1, 1));
        Edge.refused(-9, Make::rich, x -> x.swapIn(0, 0, 4));
        Edge.refused(-9, Make::rich, x -> x.refuse(0, 3, 0));
        Edge.refused(-9, Make::rich, x -> x.step(1));
        Edge.refused(-9, Make::rich, x -> x.most(3, true));
        Edge.refused(-9, Make::rich, x -> x.mostTurned(3, true));
    }

    private static void exceptions() {
        says("A method that throws an exception changes nothing.");
        Edge.refused(Check.STATE, Make::rich, x -> x.addTwo(2, 1, 1, 2, 2));
        Edge.refused(Check.STATE, Make::rich, x -> x.append(0, 2));
        Edge.refused(Check.ARGUMENT, Make::rich, x -> x.addTwo(0, 1, 1, 2, 10));
        Edge.refused(Check.ARGUMENT, Make::rich, x -> x.replace(0, 1, 0, 1, 10));
        Edge.refused(Check.INDEX, Make::rich, x -> x.swap(0, 0, 5));
        Edge.refused(Check.INDEX, Make::rich, x -> x.copy(0, 4));
        Edge.refused(Check.INDEX, Make::rich, x -> x.part(0, 0, 0, 6));
        Edge.refused(Check.STATE, Make::rich, x -> x.inner(0, 2, 0, 3));
        says("If several exceptions apply, the one that is named first is thrown.");
        Edge.refused(Check.INDEX, Make::rich, x -> x.insert(2, 32, 100, 10));
        Edge.refused(Check.ARGUMENT, Make::rich, x -> x.insert(2, 31, 100, 10));
        Edge.refused(Check.STATE, Make::rich, x -> x.insert(2, 31, 99, 9));
        Edge.refused(Check.INDEX, Make::gone, x -> x.setIn(3, 0, 100, 10));
        Edge.refused(Check.ARGUMENT, Make::gone, x -> x.setIn(2, 0, 100, 10));
        Edge.refused(Check.STATE, Make::gone, x -> x.setIn(2, 0, 99, 9));
        Edge.refused(Check.INDEX, Make::gone, x -> x.inner(3, 3, 1, 0));
        Edge.refused(Check.ARGUMENT, Make::gone, x -> x.inner(2, 2, 1, 0));
        Edge.refused(Check.STATE, Make::gone, x -> x.inner(1, 2, 1, 0));
    }

    private static void pushed() {
        says("To PUSH a ROW of n cards ON by k (any whole number): the card of the place p goes to the place p + k, "
            + "the rest of it by n (0 to n - 1).");
        int[] pushes = {Integer.MIN_VALUE, Integer.MIN_VALUE + 1, -33, -32, -31, -30, -1, 0, 1, 2, 15, 30, 31, 32, 33,
            Integer.MAX_VALUE - 1, Integer.MAX_VALUE};
        for (int n = 1; n <= 31; n++) {
            for (int k : pushes) {
                pushedAsARow(n, k);
                pushedAsAPart(n, k);
            }
        }
    }

    /** A row of cards 0.0, 1.0 and so on. */
    private static Rowtricks counted(int many) {
        Rowtricks x = new Rowtricks();
        for (int place = 0; place < many; place++) {
            x.add(0, place, 0);
        }
        return x;
    }

    private static void pushedAsARow(int n, int k) {
        Rowtricks x = counted(n);
        x.rotate(0, k);
        for (int p = 0; p < n; p++) {
            int there = (int) Math.floorMod((long) p + k, (long) n);
            Check.is(p, () -> x.at(0, there, false));
        }
    }

    /** The part leaves out the first card of the row, which must stay. */
    private static void pushedAsAPart(int n, int k) {
        Rowtricks x = counted(n);
        x.part(0, 0, 1, n);
        x.rotateIn(0, k);
        Check.is(0, () -> x.at(0, 0, false));
        for (int p = 0; p < n - 1; p++) {
            int there = 1 + (int) Math.floorMod((long) p + k, (long) n - 1);
            int card = p + 1;
            Check.is(card, () -> x.at(0, there, false));
        }
    }

    private static void turnedAndSorted() {
        says("To TURN it round: the first one becomes the last one, and so on.");
        for (int n = 0; n <= 31; n++) {
            Rowtricks x = counted(n);
            x.reverse(0);
            for (int p = 0; p < n; p++) {
                int card = n - 1 - p;
                int place = p;
                Check.is(card, () -> x.at(0, place, false));
            }
        }
        says("To SORT it: VALUES rise (UP) or fall (DOWN), cards of like VALUES keep their sequence.");
        Edge.tells("[1.2, 1.0, 1.1, 2.9, 2.3, 2.5]", () -> Make.row0(29, 12, 23, 10, 11, 25), x -> {
            x.sort(0, false);
            return x.text(0);
        });
        Edge.tells("[2.9, 2.3, 2.5, 1.2, 1.0, 1.1]", () -> Make.row0(29, 12, 23, 10, 11, 25), x -> {
            x.sort(0, true);
            return x.text(0);
        });
        Edge.tells("[2.9, 1.2, 1.0, 2.3, 1.1, 2.5]", () -> Make.row0(29, 12, 23, 10, 11, 25), x -> {
            x.part(0, 0, 1, 4);
            x.sortIn(0);
            return x.text(0);
        });
    }

    private static void stateIsKept() {
        says("STATE of a ROW: UP or DOWN, if it was SORTED that way by sort(), and nothing was done to it, or through a "
            + "PART of it, since (calls that tell -9, part(), inner(), drop(), walk(), step() and what is only asked do "
            + "not count; all others do, also if no card is another one then); otherwise LOOSE, as at first.");
        Edge.tells("0000 -1 -1 -1 -1 ---", Rowtricks::new, DescriptionTest::found);
        Edge.tells("1202 1 0 -1 0 +++", Make::rich, DescriptionTest::found);
        isFound("1202 1 0 -1 0 +++", Make::rich,
            x -> x.setIn(0, 4, 1, 1), x -> x.setIn(1, -1, 1, 1), x -> x.swapIn(0, 4, 0), x -> x.swapIn(1, 0, 2),
            x -> x.step(1), x -> x.refuse(0, 5, 0), x -> x.refuse(1, 3, 0),
            x -> x.part(2, 1, 0, 1), x -> x.part(2, 0, 5, 5), x -> x.inner(2, 0, 0, 4), x -> x.inner(2, 1, 1, 1),
            x -> x.walk(0), x -> x.walk(3), x -> x.step(0), x -> x.step(3), x -> x.knock());
        isFound("1202 1 0 -1 0 ++-", Make::rich, x -> x.drop(2));
        isFound("1202 1 0 -1 0 +-+", Make::rich, x -> x.drop(1));
        isFound("1202 1 0 -1 0 +++", Make::rich,
            x -> x.size(0), x -> x.text(0), x -> x.at(0, 0, true), x -> x.frequency(0, 1, 0),
            x -> x.indexOf(0, 1, 0, true), x -> x.disjoint(0, 1), x -> x.isSame(0, 1), x -> x.indexOfRow(0, 1),
            x -> x.most(0, true), x -> x.mostTurned(0, true), x -> x.search(0, 3), x -> x.state(0),
            x -> x.compare(1, 2), x -> x.copiesIn(2, 1, 0, 0), x -> x.textIn(0), x -> x.sizeIn(0),
            x -> x.indexOfIn(0, 0, true), x -> x.indexOfIn(0, 0, false), x -> x.viewText(0),
            x -> x.viewFrequency(0, 1, 0), x -> x.hasStep(0), x -> x.house(0), x -> x.isSound(), x -> x.digest());
        // a row that others are made of has nothing done to it
        Edge.tells("1 2", Make::rich, x -> {
            x.append(2, 3);
            x.copy(2, 0);
            x.append(3, 1);
            return x.state(0) + " " + x.state(1);
        });
        // nor has one that stands by chance as if it were SORTED been SORTED
        Edge.tells(0, () -> Make.row0(10, 20, 30), x -> x.state(0));
    }

    private static void stateIsLost() {
        isFound("0202 1 0 -1 0 +++", Make::rich,
            x -> x.set(0, 0, 2, 0), x -> x.fill(0, 1, 1), x -> x.replace(0, 1, 0, 0, 0), x -> x.reverse(0),
            x -> x.rotate(0, 1), x -> x.swap(0, 0, 1), x -> x.setIn(0, 0, 9, 9), x -> x.reverseIn(0),
            x -> x.rotateIn(1, 1), x -> x.swapIn(1, 0, 1));
        isFound("1002 1 0 -1 0 +++", Make::rich,
            x -> x.setIn(2, 0, 9, 9), x -> x.reverseIn(2), x -> x.rotateIn(2, 1), x -> x.swapIn(2, 0, 1),
            x -> x.sortIn(2));
        isFound("1200 1 0 -1 0 +++", Make::rich,
            x -> x.fill(3, 1, 1), x -> x.replace(3, 1, 0, 0, 0), x -> x.reverse(3), x -> x.rotate(3, 1));
    }

    private static void stateIsLostThoughNoCardIsAnother() {
        isFound("0202 1 0 -1 0 +++", Make::rich,
            x -> x.set(0, 0, 1, 0), x -> x.replace(0, 1, 0, 1, 0), x -> x.replace(0, 77, 7, 1, 0),
            x -> x.rotate(0, 0), x -> x.rotate(0, -5), x -> x.swap(0, 1, 1), x -> x.addCopies(0, 0, 1, 1),
            x -> x.append(0, 3), x -> x.setIn(0, 0, 2, 1), x -> x.rotateIn(0, 4), x -> x.swapIn(0, 3, 3),
            x -> x.sortIn(0), x -> x.sortIn(1));
        isFound("0202 1 0 -1 0 +++", Make::hollow,
            x -> x.reverseIn(2), x -> x.rotateIn(2, 1), x -> x.sortIn(2), x -> x.cut(2));
        isFound("1200 1 0 -1 0 +++", Make::rich, x -> x.clear(3), x -> x.addCopies(3, 0, 1, 1), x -> x.fill(3, 1, 1));
        // one and the same card through all of a row
        isFound("0000 1 -1 -1 -1 ---", () -> {
            Rowtricks x = Make.full();
            x.sort(0, false);
            x.walk(0);
            return x;
        }, x -> x.fill(0, 5, 5), x -> x.reverse(0), x -> x.rotate(0, 7), x -> x.swap(0, 0, 30));
    }

    private static void standsIn() {
        says("A ROW stands in another one from the place p on, if the cards from p on are the SAME as its cards, one by "
            + "one, as many as it has.");
        for (int p = 0; p <= 29; p++) {
            Rowtricks x = counted(31);
            x.addTwo(1, p, 0, p + 1, 0);
            int place = p;
            Check.is(place, () -> x.indexOfRow(0, 1));
            x.set(1, 1, p + 1, 1);
            Check.is(-1, () -> x.indexOfRow(0, 1));
        }
        Edge.tells(-1, () -> counted(31), x -> {
            x.addTwo(1, 30, 0, 0, 0);
            return x.indexOfRow(0, 1);
        });
        says("An empty one stands in each one from 0 on.");
        Edge.tells("0 0 0 0", Make::rich, x -> x.indexOfRow(0, 3) + " " + x.indexOfRow(1, 3) + " " + x.indexOfRow(2, 3)
            + " " + x.indexOfRow(3, 3));
        Edge.tells("0 0", Make::rich, x -> x.copiesIn(0, 1, 1, 0) + " " + x.copiesIn(0, 1, 1, 3));
        Edge.tells("0 0 0", Make::hollow,
            x -> x.indexOfIn(0, 3, false) + " " + x.indexOfIn(2, 0, true) + " " + x.indexOfIn(2, 3, false));
    }

    private static String texts(Rowtricks x) {
        return x.textIn(0) + x.textIn(1) + x.textIn(2);
    }

    private static void areTexts(String due, Edge.Base base, Edge.Call... calls) {
        for (Edge.Call call : calls) {
            Edge.tells(due, base, x -> {
                call.of(x);
                return texts(x);
            });
        }
    }

    /** As rich(), but part 2 lies within part 1, which lies within part 0. */
    private static Rowtricks deep() {
        Rowtricks x = Make.rich();
        x.inner(2, 1, 1, 2);
        return x;
    }

    private static void spans() {
        says("PARTS: 0 to 2, none at first.");
        Edge.limits(Check.INDEX, Rowtricks::new, 0, "-", 2, "-", (x, part) -> x.textIn(part));
        Edge.limits(Check.INDEX, Make::rich, 0, 1, 2, 1, (x, part) -> x.drop(part));
        says("A PART is a span of a ROW, from a place (with it) to a place (without it), or a span of another PART (its "
            + "WHOLE); places of a PART are counted from its own first one.");
        for (int from = 0; from <= 5; from++) {
            for (int to = from; to <= 5; to++) {
                Rowtricks x = counted(5);
                Rowtricks same = new Rowtricks();
                x.part(2, 0, from, to);
                for (int place = from; place < to; place++) {
                    same.add(0, place, 0);
                }
                Check.is(same.text(0), () -> x.textIn(2));
            }
        }
        Edge.tells("5[1.0, 2.1, 2.0, 7.7, 9.9]", DescriptionTest::deep, x -> x.setIn(2, 0, 7, 7) + x.text(0));
        Edge.tells("2[1.0, 2.1, 7.7, 5.0, 9.9]", DescriptionTest::deep, x -> x.setIn(1, 0, 7, 7) + x.text(0));
        Edge.tells("2[1.0, 7.7, 2.0, 5.0, 9.9]", DescriptionTest::deep, x -> x.setIn(0, 0, 7, 7) + x.text(0));
        Edge.tells("2[1.0, 2.1, 5.0, 2.0, 9.9]", DescriptionTest::deep, x -> x.swapIn(1, 1, 0) + x.text(0));
    }

    private static void gone() {
        says("It is GONE, as it is dropped, or another one is laid in its stead, and with it all PARTS of which it is the "
            + "WHOLE, and those of these; and as follows.");
        areTexts("---", DescriptionTest::deep, x -> x.drop(0));
        areTexts("[2.1, 2.0, 5.0, 9.9]--", DescriptionTest::deep, x -> x.drop(1));
        areTexts("[2.1, 2.0, 5.0, 9.9][2.0, 5.0]-", DescriptionTest::deep, x -> x.drop(2));
        areTexts("[8.0]--", DescriptionTest::deep, x -> x.part(0, 1, 0, 1));
        areTexts("[2.1, 2.0, 5.0, 9.9]--", DescriptionTest::deep, x -> x.part(0, 0, 1, 5));
        areTexts("[2.1, 2.0, 5.0, 9.9][8.0]-", DescriptionTest::deep, x -> x.part(1, 1, 0, 1));
        areTexts("[2.1, 2.0, 5.0, 9.9][2.0, 5.0]-", DescriptionTest::deep, x -> x.inner(1, 0, 1, 3));
        areTexts("[2.1, 2.0, 5.0, 9.9][2.0, 5.0][]", DescriptionTest::deep, x -> x.inner(2, 1, 0, 0));
        areTexts("[8.0]-[8.0, 3.3]", Make::rich, x -> x.inner(0, 2, 0, 1));
        // two parts of one and the same whole
        areTexts("[2.1, 2.0, 5.0, 9.9]-[2.1]", () -> {
            Rowtricks x = Make.rich();
            x.inner(2, 0, 0, 1);
            return x;
        }, x -> x.drop(1));
        // parts of the same span of which neither is the WHOLE of the other
        areTexts("-[2.1, 2.0, 5.0, 9.9][8.0, 3.3]", () -> {
            Rowtricks x = Make.rich();
            x.part(1, 0, 1, 5);
            return x;
        }, x -> x.drop(0));
        areTexts("-[8.0][8.0, 3.3]", Make::rich, x -> {
            x.drop(0);
            return x.inner(1, 2, 0, 1) + x.drop(0);
        });
    }

    private static void reshaped() {
        says("RESHAPED is a ROW by add(), insert(), remove(), clear() of a ROW that has cards, addTwo(), addCopies() with 1 "
            + "copy or more, append(), if the ROW that is appended has cards, copy() (always), sort() of the ROW (always): "
            + "then all its PARTS are GONE, and its walk.");
        isFound("0202 -1 0 -1 0 --+", Make::rich,
            x -> x.add(0, 1, 1), x -> x.insert(0, 0, 1, 1), x -> x.insert(0, 5, 1, 1), x -> x.remove(0, 0),
            x -> x.remove(0, 4), x -> x.clear(0), x -> x.addTwo(0, 1, 1, 2, 2), x -> x.addCopies(0, 1, 1, 1),
            x -> x.addCopies(0, 26, 1, 1), x -> x.append(0, 1), x -> x.copy(0, 1), x -> x.copy(0, 2), x -> x.copy(0, 3));
        isFound("1202 -1 0 -1 0 --+", Make::rich, x -> x.sort(0, false));
        isFound("2202 -1 0 -1 0 --+", Make::rich, x -> x.sort(0, true));
        isFound("1002 1 -1 -1 0 ++-", Make::rich,
            x -> x.add(1, 1, 1), x -> x.remove(1, 2), x -> x.clear(1), x -> x.append(1, 0), x -> x.copy(1, 3));
        isFound("1202 1 -1 -1 0 ++-", Make::rich, x -> x.sort(1, true));
        isFound("0202 -1 0 -1 0 ---", DescriptionTest::deep, x -> x.add(0, 1, 1), x -> x.copy(0, 3));
        isFound("0202 -1 0 -1 0 ---", Make::hollow, x -> x.insert(0, 5, 1, 1), x -> x.clear(0));
        // a copy that is as the row was
        isFound("0202 -1 0 -1 0 --+", () -> {
            Rowtricks x = Make.rich();
            x.copy(2, 0);
            return x;
        }, x -> x.copy(0, 2));
    }

    /** As rich(), but row 2 is empty, too, and part 2 is the empty one of row 3. */
    private static Rowtricks bare() {
        Rowtricks x = Make.rich();
        x.clear(2);
        x.part(2, 3, 0, 0);
        return x;
    }

    private static void reshapedWithoutCards() {
        isFound("1200 1 0 -1 -1 ++-", DescriptionTest::bare,
            x -> x.add(3, 1, 1), x -> x.insert(3, 0, 1, 1), x -> x.addTwo(3, 1, 1, 2, 2), x -> x.addCopies(3, 1, 1, 1),
            x -> x.append(3, 0), x -> x.copy(3, 0), x -> x.copy(3, 2));
        isFound("1201 1 0 -1 -1 ++-", DescriptionTest::bare, x -> x.sort(3, false));
        isFound("1202 1 0 -1 -1 ++-", DescriptionTest::bare, x -> x.sort(3, true));
        isFound("1200 1 0 -1 0 +++", DescriptionTest::bare,
            x -> x.clear(3), x -> x.addCopies(3, 0, 1, 1), x -> x.append(3, 2), x -> x.fill(3, 1, 1), x -> x.cut(2));
    }

    private static void notReshaped() {
        says("All else lets PARTS and walks be:");
        isFound("0202 1 0 -1 0 +++", Make::rich,
            x -> x.addCopies(0, 0, 1, 1), x -> x.append(0, 3), x -> x.set(0, 4, 1, 1), x -> x.fill(0, 1, 1),
            x -> x.replace(0, 1, 0, 9, 9), x -> x.replace(0, 77, 7, 9, 9), x -> x.reverse(0), x -> x.rotate(0, 2),
            x -> x.swap(0, 0, 4), x -> x.setIn(1, 0, 1, 1), x -> x.reverseIn(0), x -> x.rotateIn(0, 1),
            x -> x.swapIn(0, 0, 1), x -> x.sortIn(0));
        Edge.tells("2 [2.1, 2.0, 5.0, 9.9][2.0, 5.0][8.0, 3.3]", Make::rich, x -> {
            x.addCopies(0, 0, 1, 1);
            x.append(0, 3);
            return x.step(0) + " " + texts(x);
        });
    }

    private static void cut() {
        says("By cut() through a PART that has cards: then its walk is GONE, and all PARTS of that ROW but the PART itself "
            + "(which has no card then), its WHOLE, the WHOLE of that, and so on (which have so many fewer).");
        isFound("0202 -1 0 -1 0 +-+", Make::rich, x -> x.cut(0));
        isFound("0202 -1 0 -1 0 +++", Make::rich, x -> x.cut(1));
        isFound("1002 1 -1 -1 0 +++", Make::rich, x -> x.cut(2));
        areTexts("[]-[8.0, 3.3]", Make::rich, x -> x.cut(0));
        areTexts("[2.1, 9.9][][8.0, 3.3]", Make::rich, x -> x.cut(1));
        areTexts("[]--", DescriptionTest::deep, x -> x.cut(0));
        areTexts("[2.1, 9.9][]-", DescriptionTest::deep, x -> x.cut(1));
        areTexts("[2.1, 2.0, 9.9][2.0][]", DescriptionTest::deep, x -> x.cut(2));
        // those that stay have their places still, and can be cut in their turn
        Edge.tells("1 9 [7.7, 2.0, 8.8][2.0][] [1.0, 7.7, 2.0, 8.8]", DescriptionTest::deep, x -> {
            int many = x.cut(2);
            x.setIn(0, 0, 7, 7);
            return many + " " + x.setIn(0, 2, 8, 8) + " " + texts(x) + " " + x.text(0);
        });
        Edge.tells("1 -9 1 2 [][]- [1.0]", DescriptionTest::deep, x -> {
            int inmost = x.cut(2);
            int beyond = x.setIn(1, 1, 7, 7);
            int middle = x.cut(1);
            int outmost = x.sizeIn(0);
            x.setIn(0, 0, 7, 7);
            x.inner(1, 0, 0, 2);
            x.cut(1);
            return inmost + " " + beyond + " " + middle + " " + outmost + " " + texts(x) + " " + x.text(0);
        });
        Edge.tells("4[1.0, 9.9]-1", DescriptionTest::deep, x -> {
            x.add(0, 9, 9);
            x.part(0, 0, 1, 5);
            return x.cut(0) + x.text(0) + x.hasStep(0);
        });
    }

    private static void cutAmongOthers() {
        // beside it, over it, as long as it, empty: if it is not within it, it is GONE
        int[][] spans = {{0, 1}, {0, 5}, {1, 3}, {3, 5}, {1, 1}, {5, 5}, {0, 0}, {2, 4}};
        for (int[] span : spans) {
            areTexts("-[]-", () -> {
                Rowtricks x = Make.rich();
                x.part(0, 0, span[0], span[1]);
                x.part(1, 0, 1, 3);
                x.inner(2, 0, 0, 0);
                return x;
            }, x -> x.cut(1));
        }
        // two parts of one and the same whole
        areTexts("[5.0, 9.9]-[]", () -> {
            Rowtricks x = Make.rich();
            x.inner(2, 0, 0, 2);
            return x;
        }, x -> x.cut(2));
        areTexts("[2.1, 9.9][]-", () -> {
            Rowtricks x = Make.rich();
            x.inner(2, 0, 4, 4);
            return x;
        }, x -> x.cut(1));
    }

    private static void cutOfNone() {
        isFound("0202 1 0 -1 0 +++", Make::hollow, x -> x.cut(2));
        isFound("0202 1 0 -1 0 +++", () -> {
            Rowtricks x = Make.rich();
            x.inner(2, 1, 1, 1);
            return x;
        }, x -> x.cut(2));
        areTexts("[2.1, 2.0, 5.0, 9.9][2.0, 5.0][]", Make::hollow, x -> x.cut(2));
        Edge.tells("0 2", Make::hollow, x -> x.cut(2) + " " + x.step(0));
    }

    private static void shows() {
        says("what is done to a ROW shows in them at once.");
        areTexts("[7.7, 2.0, 5.0, 9.9][2.0, 5.0][8.0, 3.3]", Make::rich, x -> x.set(0, 1, 7, 7), x -> x.setIn(0, 0, 7, 7));
        areTexts("[7.7, 7.7, 7.7, 7.7][7.7, 7.7][8.0, 3.3]", Make::rich, x -> x.fill(0, 7, 7));
        areTexts("[2.1, 7.7, 5.0, 9.9][7.7, 5.0][8.0, 3.3]", Make::rich, x -> x.replace(0, 2, 0, 7, 7));
        areTexts("[5.0, 2.0, 2.1, 1.0][2.0, 2.1][8.0, 3.3]", Make::rich, x -> x.reverse(0));
        areTexts("[1.0, 2.1, 2.0, 5.0][2.1, 2.0][8.0, 3.3]", Make::rich, x -> x.rotate(0, 1));
        areTexts("[2.1, 1.0, 5.0, 9.9][1.0, 5.0][8.0, 3.3]", Make::rich, x -> x.swap(0, 0, 2));
        areTexts("[2.1, 5.0, 2.0, 9.9][5.0, 2.0][8.0, 3.3]", Make::rich, x -> x.reverseIn(1), x -> x.rotateIn(1, 1),
            x -> x.swapIn(1, 0, 1), x -> x.swapIn(0, 1, 2));
        areTexts("[2.1, 2.0, 5.0, 9.9][2.0, 5.0][3.3, 8.0]", Make::rich, x -> x.sortIn(2), x -> x.swap(1, 0, 1));
    }

    private static void views() {
        says("The VIEW of a ROW shows it as it is at each moment.");
        Edge.Call[] changes = {
            x -> x.add(0, 1, 1), x -> x.insert(0, 1, 1, 1), x -> x.remove(0, 1), x -> x.set(0, 1, 7, 7), x -> x.clear(0),
            x -> x.addTwo(0, 1, 1, 2, 2), x -> x.addCopies(0, 3, 1, 1), x -> x.append(0, 1), x -> x.copy(0, 1),
            x -> x.fill(0, 1, 1), x -> x.replace(0, 1, 0, 2, 2), x -> x.reverse(0), x -> x.rotate(0, 1),
            x -> x.swap(0, 0, 1), x -> x.sort(0, true), x -> x.cut(1), x -> x.setIn(0, 0, 1, 1), x -> x.reverseIn(0),
            x -> x.rotateIn(0, 1), x -> x.swapIn(0, 0, 3), x -> x.sortIn(0)};
        for (Edge.Call change : changes) {
            Rowtricks x = Make.rich();
            change.of(x);
            Check.is(x.text(0), () -> x.viewText(0));
            Check.is(x.frequency(0, 1, 1), () -> x.viewFrequency(0, 1, 1));
            Check.is(x.size(0), () -> x.walk(0));
        }
        says("It refuses (-9): to put a card in a place, to add one, to take one away, to clear it, to add all of a ROW, to "
            + "SORT it, also if nothing would be other then.");
        for (int wish = 0; wish <= 5; wish++) {
            int what = wish;
            Edge.refused(-9, Make::rich, x -> x.refuse(0, what, 1));
            Edge.refused(-9, Make::rich, x -> x.refuse(3, what, 3));
            Edge.refused(-9, () -> Make.row0(0), x -> x.refuse(0, what, 1));
        }
    }

    private static String steps(Rowtricks x, int many) {
        StringBuilder ink = new StringBuilder();
        for (int step = 0; step < many; step++) {
            ink.append(x.step(0)).append(' ');
        }
        return ink.toString().strip();
    }

    private static void walks() {
        says("A walk of a ROW goes over its VIEW from the first card on; it is begun anew by walk().");
        Edge.tells("1 2 2 5 9 -9 -9", Make::rich, x -> {
            x.walk(0);
            return steps(x, 7);
        });
        Edge.tells("2 5 9 -9 1 2", Make::rich, x -> {
            String before = steps(x, 4);
            x.walk(0);
            return before + " " + steps(x, 2);
        });
        // each row has a walk of its own
        Edge.tells("2 8 5 3 9 3 -9 -9", Make::rich, x -> {
            x.walk(1);
            return x.step(0) + " " + x.step(1) + " " + x.step(0) + " " + x.step(1) + " " + x.step(0) + " " + x.step(1)
                + " " + x.step(0) + " " + x.step(1);
        });
        says("A step tells the next card (as it is then), REFUSED behind the last one.");
        Edge.tells("1 9 -9", Make::rich, x -> {
            x.reverse(0);
            x.set(0, 2, 1, 1);
            x.set(0, 3, 9, 9);
            x.set(0, 4, 9, 9);
            int first = x.step(0);
            x.step(0);
            return first + " " + steps(x, 2);
        });
        Edge.tells("7 5 9 -9", Make::rich, x -> {
            x.setIn(1, 0, 7, 7);
            return steps(x, 4);
        });
        Edge.tells("-9 -9 1", Make::rich, x -> {
            steps(x, 3);
            String end = steps(x, 2);
            x.rotate(0, 2);
            x.rotate(0, -2);
            x.walk(0);
            return end + " " + x.step(0);
        });
    }
}
