import java.util.ArrayList;
import java.util.Collections;
import java.util.Comparator;
import java.util.Iterator;
import java.util.List;

/** What the document says, told once more by means of java.util: lists, their parts, views and walks. */
final class Model {
    private record Card(int value, int mark) {
        @Override
        public String toString() {
            return value + "." + mark;
        }
    }

    private static final Comparator<Card> BY_VALUE = Comparator.comparingInt(Card::value);

    private final List<List<Card>> rows = new ArrayList<>();
    private final List<List<Card>> views = new ArrayList<>();
    private final List<Iterator<Card>> walks = new ArrayList<>();
    private final int[] states = new int[4];
    private final List<List<Card>> parts = new ArrayList<>(Collections.nCopies(3, null));
    private final int[] rowOfPart = new int[3];
    private final int[] wholes = {-1, -1, -1};
    private int knocks = 0;

    Model() {
        for (int row = 0; row < 4; row++) {
            rows.add(new ArrayList<>());
            views.add(Collections.unmodifiableList(rows.get(row)));
            walks.add(null);
        }
    }

    private static void index(boolean isMet) {
        if (!isMet) {
            throw new IndexOutOfBoundsException();
        }
    }

    private static void argument(boolean isMet) {
        if (!isMet) {
            throw new IllegalArgumentException();
        }
    }

    private static void state(boolean isMet) {
        if (!isMet) {
            throw new IllegalStateException();
        }
    }

    private List<Card> row(int row) {
        index(row >= 0 && row <= 3);
        return rows.get(row);
    }

    private List<Card> partThere(int part) {
        state(parts.get(part) != null);
        return parts.get(part);
    }

    private static void isPart(int part) {
        index(part >= 0 && part <= 2);
    }

    private static void place(List<Card> row, int place) {
        index(place >= 0 && place < row.size());
    }

    private static Card card(int value, int mark) {
        argument(value >= 0 && value <= 99 && mark >= 0 && mark <= 9);
        return new Card(value, mark);
    }

    private static int first(List<Card> cards) {
        return cards.isEmpty() ? -1 : cards.get(0).value();
    }

    private void reshaped(int row) {
        states[row] = 0;
        walks.set(row, null);
        for (int part = 0; part < 3; part++) {
            if (rowOfPart[part] == row) {
                gone(part);
            }
        }
    }

    private void gone(int part) {
        parts.set(part, null);
        wholes[part] = -1;
        for (int inner = 0; inner < 3; inner++) {
            if (wholes[inner] == part) {
                gone(inner);
            }
        }
    }

    private boolean isWithin(int part, int whole) {
        return part != -1 && (part == whole || isWithin(wholes[part], whole));
    }

    int add(int row, int value, int mark) {
        return insertAll(row, row(row).size(), List.of(card(value, mark)));
    }

    private int insertAll(int row, int place, List<Card> cards) {
        state(row(row).size() + cards.size() <= 31);
        states[row] = 0;
        if (!cards.isEmpty()) {
            row(row).addAll(place, cards);
            reshaped(row);
        }
        return row(row).size();
    }

    int insert(int row, int place, int value, int mark) {
        index(place >= 0 && place <= row(row).size());
        return insertAll(row, place, List.of(card(value, mark)));
    }

    int remove(int row, int place) {
        place(row(row), place);
        int value = row(row).remove(place).value();
        reshaped(row);
        return value;
    }

    int set(int row, int place, int value, int mark) {
        place(row(row), place);
        Card card = card(value, mark);
        states[row] = 0;
        return row(row).set(place, card).value();
    }

    int clear(int row) {
        int many = row(row).size();
        states[row] = 0;
        if (many > 0) {
            row(row).clear();
            reshaped(row);
        }
        return many;
    }

    int addTwo(int row, int value, int mark, int value2, int mark2) {
        row(row);
        return insertAll(row, row(row).size(), List.of(card(value, mark), card(value2, mark2)));
    }

    int addCopies(int row, int many, int value, int mark) {
        row(row);
        argument(many >= 0 && many <= 31);
        return insertAll(row, row(row).size(), Collections.nCopies(many, card(value, mark)));
    }

    int append(int row, int other) {
        List<Card> added = row(row) == row(other) ? null : new ArrayList<>(row(other));
        argument(added != null);
        return insertAll(row, row(row).size(), added);
    }

    int copy(int row, int other) {
        row(row);
        row(other);
        argument(row != other);
        row(row).clear();
        row(row).addAll(row(other));
        reshaped(row);
        return row(row).size();
    }

    int fill(int row, int value, int mark) {
        row(row);
        Collections.fill(row(row), card(value, mark));
        states[row] = 0;
        return row(row).size();
    }

    boolean replace(int row, int value, int mark, int value2, int mark2) {
        boolean isFound = Collections.replaceAll(row(row), card(value, mark), card(value2, mark2));
        states[row] = 0;
        return isFound;
    }

    int reverse(int row) {
        Collections.reverse(row(row));
        states[row] = 0;
        return first(row(row));
    }

    int rotate(int row, int by) {
        Collections.rotate(row(row), by);
        states[row] = 0;
        return first(row(row));
    }

    int swap(int row, int a, int b) {
        place(row(row), a);
        place(row(row), b);
        Collections.swap(row(row), a, b);
        states[row] = 0;
        return row(row).get(a).value();
    }

    int sort(int row, boolean isDown) {
        row(row).sort(isDown ? BY_VALUE.reversed() : BY_VALUE);
        reshaped(row);
        states[row] = isDown ? 2 : 1;
        return first(row(row));
    }

    int size(int row) {
        return row(row).size();
    }

    String text(int row) {
        return row(row).toString();
    }

    int at(int row, int place, boolean isMark) {
        place(row(row), place);
        return isMark ? row(row).get(place).mark() : row(row).get(place).value();
    }

    int frequency(int row, int value, int mark) {
        return Collections.frequency(row(row), card(value, mark));
    }

    int indexOf(int row, int value, int mark, boolean isLast) {
        row(row);
        Card card = card(value, mark);
        return isLast ? row(row).lastIndexOf(card) : row(row).indexOf(card);
    }

    boolean disjoint(int row, int other) {
        return Collections.disjoint(row(row), row(other));
    }

    boolean isSame(int row, int other) {
        return row(row).equals(row(other));
    }

    int indexOfRow(int row, int other) {
        return Collections.indexOfSubList(row(row), row(other));
    }

    int most(int row, boolean isLeast) {
        if (row(row).isEmpty()) {
            return -9;
        }
        return (isLeast ? Collections.min(row(row), BY_VALUE) : Collections.max(row(row), BY_VALUE)).value();
    }

    int mostTurned(int row, boolean isLeast) {
        if (row(row).isEmpty()) {
            return -9;
        }
        Comparator<Card> turned = Collections.reverseOrder(BY_VALUE);
        return (isLeast ? Collections.min(row(row), turned) : Collections.max(row(row), turned)).value();
    }

    int search(int row, int value) {
        row(row);
        Card card = card(value, 0);
        state(states[row] != 0);
        int found = Collections.binarySearch(row(row), card, states[row] == 1 ? BY_VALUE : BY_VALUE.reversed());
        return found >= 0 ? 1 : found;
    }

    int state(int row) {
        row(row);
        return states[row];
    }

    int compare(int value, int other) {
        return Integer.signum(Collections.reverseOrder(BY_VALUE).compare(card(value, 0), card(other, 0)));
    }

    int copiesIn(int many, int value, int mark, int row) {
        row(row);
        argument(many >= 0 && many <= 31);
        return Collections.indexOfSubList(row(row), Collections.nCopies(many, card(value, mark)));
    }

    int part(int part, int row, int from, int to) {
        isPart(part);
        index(from >= 0 && to <= row(row).size() && from <= to);
        gone(part);
        parts.set(part, row(row).subList(from, to));
        rowOfPart[part] = row;
        return to - from;
    }

    int inner(int part, int whole, int from, int to) {
        isPart(part);
        isPart(whole);
        argument(part != whole);
        List<Card> outer = partThere(whole);
        state(!isWithin(whole, part));
        state(from >= 0 && to <= outer.size() && from <= to);
        gone(part);
        parts.set(part, outer.subList(from, to));
        rowOfPart[part] = rowOfPart[whole];
        wholes[part] = whole;
        return to - from;
    }

    int drop(int part) {
        isPart(part);
        int wasThere = parts.get(part) == null ? 0 : 1;
        gone(part);
        return wasThere;
    }

    int cut(int part) {
        isPart(part);
        int many = partThere(part).size();
        int row = rowOfPart[part];
        states[row] = 0;
        if (many > 0) {
            partThere(part).clear();
            walks.set(row, null);
            for (int other = 0; other < 3; other++) {
                if (rowOfPart[other] == row && !isWithin(part, other)) {
                    gone(other);
                }
            }
        }
        return many;
    }

    private boolean hasPlace(int part, int place) {
        int many = partThere(part).size();
        return place >= 0 && place < many;
    }

    int setIn(int part, int place, int value, int mark) {
        isPart(part);
        Card card = card(value, mark);
        if (!hasPlace(part, place)) {
            return -9;
        }
        states[rowOfPart[part]] = 0;
        return partThere(part).set(place, card).value();
    }

    int reverseIn(int part) {
        isPart(part);
        Collections.reverse(partThere(part));
        states[rowOfPart[part]] = 0;
        return first(partThere(part));
    }

    int rotateIn(int part, int by) {
        isPart(part);
        Collections.rotate(partThere(part), by);
        states[rowOfPart[part]] = 0;
        return first(partThere(part));
    }

    int swapIn(int part, int a, int b) {
        isPart(part);
        if (!hasPlace(part, a) || !hasPlace(part, b)) {
            return -9;
        }
        Collections.swap(partThere(part), a, b);
        states[rowOfPart[part]] = 0;
        return partThere(part).get(a).value();
    }

    int sortIn(int part) {
        isPart(part);
        Object[] sorted = partThere(part).stream().sorted(BY_VALUE).toArray();
        for (int place = 0; place < sorted.length; place++) {
            partThere(part).set(place, (Card) sorted[place]);
        }
        states[rowOfPart[part]] = 0;
        return first(partThere(part));
    }

    String textIn(int part) {
        isPart(part);
        return parts.get(part) == null ? "-" : parts.get(part).toString();
    }

    int sizeIn(int part) {
        isPart(part);
        return parts.get(part) == null ? -1 : parts.get(part).size();
    }

    int indexOfIn(int part, int row, boolean isPart) {
        isPart(part);
        List<Card> other = row(row);
        List<Card> cards = partThere(part);
        return isPart ? Collections.indexOfSubList(other, cards) : Collections.indexOfSubList(cards, other);
    }

    int refuse(int row, int what, int other) {
        row(row);
        row(other);
        argument(what >= 0 && what <= 5);
        return -9;
    }

    String viewText(int row) {
        row(row);
        return views.get(row).toString();
    }

    int viewFrequency(int row, int value, int mark) {
        row(row);
        return Collections.frequency(views.get(row), card(value, mark));
    }

    int walk(int row) {
        row(row);
        walks.set(row, views.get(row).iterator());
        return views.get(row).size();
    }

    int step(int row) {
        row(row);
        state(walks.get(row) != null);
        return walks.get(row).hasNext() ? walks.get(row).next().value() : -9;
    }

    int hasStep(int row) {
        row(row);
        if (walks.get(row) == null) {
            return -1;
        }
        return walks.get(row).hasNext() ? 1 : 0;
    }

    int house(int what) {
        argument(what >= 0 && what <= 3);
        int cards = rows.stream().mapToInt(List::size).sum();
        int there = (int) parts.stream().filter(x -> x != null).count();
        int walked = (int) walks.stream().filter(x -> x != null).count();
        return new int[] {cards, there, walked, knocks}[what];
    }

    int knock() {
        return ++knocks;
    }

    boolean isSound() {
        return true;
    }

    long digest() {
        long d = 7710;
        for (int what = 0; what < 4; what++) {
            d = d * 31 + house(what);
        }
        for (int row = 0; row < 4; row++) {
            d = signs(d, text(row)) * 31 + state(row);
            d = (d * 31 + most(row, false)) * 31 + most(row, true);
            d = d * 31 + hasStep(row);
        }
        for (int row = 0; row < 4; row++) {
            for (int other = 0; other < 4; other++) {
                d = (d * 31 + (disjoint(row, other) ? 1 : 0)) * 31 + indexOfRow(row, other);
            }
        }
        for (int part = 0; part < 3; part++) {
            d = signs(d, textIn(part));
        }
        return d * 31 + (isSound() ? 1 : 0);
    }

    private static long signs(long d, String text) {
        long mixed = d;
        for (char sign : text.toCharArray()) {
            mixed = mixed * 31 + sign;
        }
        return mixed;
    }
}
