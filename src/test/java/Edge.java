import java.util.ArrayList;
import java.util.List;

/**
 * What the tests of the document's edges share. A test says which sentence of the document it is for; in the
 * end no sentence that needs a test may be without one, and each that was said must stand in the document.
 */
final class Edge {
    interface Call {
        Object of(Rowtricks x);
    }

    interface NumberedCall {
        Object of(Rowtricks x, int number);
    }

    interface Base {
        Rowtricks made();
    }

    private static final List<String> said = new ArrayList<>();
    private static final List<Integer> whole = new ArrayList<>();
    private static int promise = 0;
    private static Document document;

    private Edge() {
    }

    static void read(Document read) {
        document = read;
    }

    static void promise(int number) {
        promise = number;
        said.clear();
    }

    static void says(String sentence) {
        said.add(sentence);
        if (!document.promise(promise).contains(sentence)) {
            Check.compare("promise " + promise + " says: " + sentence, "no such sentence");
        }
    }

    /** That no sentence of the promise was left out. */
    static void isWhole() {
        whole.add(promise);
        for (String sentence : document.due(promise)) {
            if (!said.contains(sentence)) {
                Check.compare("promise " + promise + " has a test for: " + sentence, "none");
            }
        }
    }

    /** That no promise was left out, from the first one to the last one. */
    static void areWhole(int first, int last) {
        for (int number = first; number <= last; number++) {
            Check.compare("true " + number, whole.contains(number) + " " + number);
        }
    }

    /** A call of an object that is made for it alone. */
    static void tells(Object due, Base base, Call call) {
        Rowtricks x = base.made();
        Check.is(due, () -> call.of(x));
    }

    /** That the call tells this (-9, or what it throws), and that the object is behind it what it was before. */
    static void refused(Object due, Base base, Call call) {
        Rowtricks x = base.made();
        Rowtricks untouched = base.made();
        String before = Snapshot.of(x);
        Check.is(due, () -> call.of(x));
        Check.compare(before, Snapshot.of(x));
        Check.compare(Snapshot.inTheEnd(untouched), Snapshot.inTheEnd(x));
    }

    /** The last number that is allowed on both sides, the first that is not, and the ends of all numbers. */
    static void limits(String refusal, Base base, int least, Object atLeast, int most, Object atMost,
            NumberedCall call) {
        tells(atLeast, base, x -> call.of(x, least));
        tells(atMost, base, x -> call.of(x, most));
        beyond(refusal, base, least, most, call);
    }

    /** The outer half of limits() alone: the first number on each side that is not allowed, and the ends. */
    static void beyond(String refusal, Base base, int least, int most, NumberedCall call) {
        for (int number : new int[] {least - 1, most + 1, Integer.MIN_VALUE, Integer.MAX_VALUE}) {
            refused(refusal, base, x -> call.of(x, number));
        }
    }
}
