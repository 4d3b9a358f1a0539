/**
 * Four rows of cards, parts of them that are changed through, views that refuse every change,
 * and walks over these views.
 */
public final class Rowtricks {
    private static final int ROWS = 4;
    private static final int PARTS = 3;
    private static final int ROOM = 31;
    private static final int TOP_VALUE = 99;
    private static final int MARKS = 10;
    private static final int TOP_WISH = 5;

    private static final int NONE = -1;
    private static final int REFUSED = -9;

    private static final int LOOSE = 0;
    private static final int UP = 1;
    private static final int DOWN = 2;

    private static final int DIGEST_START = 7710;
    private static final int DIGEST_FACTOR = 31;

    private final Row[] rows;
    private final Part[] parts;
    /** Kept for copiesIn() and isSound(), so that no call makes a row. */
    private final Row spare;
    private int knocks;

    public Rowtricks() {
        rows = new Row[ROWS];
        for (int row = 0; row < rows.length; row++) {
            rows[row] = new Row();
        }
        parts = new Part[PARTS];
        for (int part = 0; part < parts.length; part++) {
            parts[part] = new Part();
        }
        spare = new Row();
        knocks = 0;
    }

    // ---- rows

    public int add(int row, int value, int mark)
            throws IndexOutOfBoundsException, IllegalArgumentException, IllegalStateException {
        Row changed = rowOf(row);
        int card = cardOf(value, mark);
        needRoom(changed, 1);
        changed.putBehind(card);
        reshape(changed);
        return changed.count;
    }

    public int insert(int row, int place, int value, int mark)
            throws IndexOutOfBoundsException, IllegalArgumentException, IllegalStateException {
        Row changed = rowOf(row);
        if (place < 0 || place > changed.count) {
            throw new IndexOutOfBoundsException("no such place to put a card in");
        }
        int card = cardOf(value, mark);
        needRoom(changed, 1);
        changed.putBetween(place, card);
        reshape(changed);
        return changed.count;
    }

    public int remove(int row, int place) throws IndexOutOfBoundsException {
        Row changed = rowOf(row);
        needPlace(changed, place);
        int value = changed.valueAt(place);
        changed.takeOut(place, place + 1);
        reshape(changed);
        return value;
    }

    public int set(int row, int place, int value, int mark)
            throws IndexOutOfBoundsException, IllegalArgumentException {
        Row changed = rowOf(row);
        needPlace(changed, place);
        int card = cardOf(value, mark);
        return exchangeCard(changed, place, card);
    }

    public int clear(int row) throws IndexOutOfBoundsException {
        Row changed = rowOf(row);
        int many = changed.count;
        changed.takeOut(0, many);
        changeBy(changed, many);
        return many;
    }

    public int addTwo(int row, int value, int mark, int value2, int mark2)
            throws IndexOutOfBoundsException, IllegalArgumentException, IllegalStateException {
        Row changed = rowOf(row);
        int first = cardOf(value, mark);
        int second = cardOf(value2, mark2);
        needRoom(changed, 2);
        changed.putBehind(first);
        changed.putBehind(second);
        reshape(changed);
        return changed.count;
    }

    public int addCopies(int row, int many, int value, int mark)
            throws IndexOutOfBoundsException, IllegalArgumentException, IllegalStateException {
        Row changed = rowOf(row);
        needCopies(many);
        int card = cardOf(value, mark);
        needRoom(changed, many);
        changed.putCopiesBehind(many, card);
        changeBy(changed, many);
        return changed.count;
    }

    public int append(int row, int other)
            throws IndexOutOfBoundsException, IllegalArgumentException, IllegalStateException {
        Row changed = rowOf(row);
        Row added = rowOf(other);
        needDifferent(row, other);
        needRoom(changed, added.count);
        changed.putAllBehind(added);
        changeBy(changed, added.count);
        return changed.count;
    }

    public int copy(int row, int other) throws IndexOutOfBoundsException, IllegalArgumentException {
        Row changed = rowOf(row);
        Row model = rowOf(other);
        needDifferent(row, other);
        changed.becomeLike(model);
        reshape(changed);
        return changed.count;
    }

    public int fill(int row, int value, int mark)
            throws IndexOutOfBoundsException, IllegalArgumentException {
        Row changed = rowOf(row);
        int card = cardOf(value, mark);
        for (int place = 0; place < changed.count; place++) {
            changed.put(place, card);
        }
        changed.state = LOOSE;
        return changed.count;
    }

    public boolean replace(int row, int value, int mark, int value2, int mark2)
            throws IndexOutOfBoundsException, IllegalArgumentException {
        Row changed = rowOf(row);
        int sought = cardOf(value, mark);
        int card = cardOf(value2, mark2);
        boolean isFound = false;
        for (int place = 0; place < changed.count; place++) {
            if (changed.cardAt(place) == sought) {
                changed.put(place, card);
                isFound = true;
            }
        }
        changed.state = LOOSE;
        return isFound;
    }

    public int reverse(int row) throws IndexOutOfBoundsException {
        Row changed = rowOf(row);
        return turnSpan(changed, 0, changed.count);
    }

    public int rotate(int row, int by) throws IndexOutOfBoundsException {
        Row changed = rowOf(row);
        return pushSpan(changed, 0, changed.count, by);
    }

    public int swap(int row, int a, int b) throws IndexOutOfBoundsException {
        Row changed = rowOf(row);
        needPlace(changed, a);
        needPlace(changed, b);
        return changePlaces(changed, a, b);
    }

    public int sort(int row, boolean isDown) throws IndexOutOfBoundsException {
        Row changed = rowOf(row);
        changed.arrange(0, changed.count, isDown);
        reshape(changed);
        changed.state = isDown ? DOWN : UP;
        return changed.firstValue(0, changed.count);
    }

    // ---- what is asked of rows

    public int size(int row) throws IndexOutOfBoundsException {
        return rowOf(row).count;
    }

    public String text(int row) throws IndexOutOfBoundsException {
        return textOf(rowOf(row));
    }

    public int at(int row, int place, boolean isMark) throws IndexOutOfBoundsException {
        Row asked = rowOf(row);
        needPlace(asked, place);
        return isMark ? asked.markAt(place) : asked.valueAt(place);
    }

    public int frequency(int row, int value, int mark)
            throws IndexOutOfBoundsException, IllegalArgumentException {
        Row asked = rowOf(row);
        return asked.howOften(cardOf(value, mark));
    }

    public int indexOf(int row, int value, int mark, boolean isLast)
            throws IndexOutOfBoundsException, IllegalArgumentException {
        Row asked = rowOf(row);
        int card = cardOf(value, mark);
        return isLast ? asked.lastPlaceOf(card) : asked.firstPlaceOf(card);
    }

    public boolean disjoint(int row, int other) throws IndexOutOfBoundsException {
        return haveNoneInCommon(rowOf(row), rowOf(other));
    }

    public boolean isSame(int row, int other) throws IndexOutOfBoundsException {
        return rowOf(row).isLike(rowOf(other));
    }

    public int indexOfRow(int row, int other) throws IndexOutOfBoundsException {
        return placeOfRow(rowOf(row), rowOf(other));
    }

    public int most(int row, boolean isLeast) throws IndexOutOfBoundsException {
        return extremeOf(rowOf(row), isLeast);
    }

    public int mostTurned(int row, boolean isLeast) throws IndexOutOfBoundsException {
        return extremeOf(rowOf(row), !isLeast);
    }

    public int search(int row, int value)
            throws IndexOutOfBoundsException, IllegalArgumentException, IllegalStateException {
        Row asked = rowOf(row);
        needValue(value);
        if (asked.state == LOOSE) {
            throw new IllegalStateException("the row is loose");
        }
        int before = 0;
        for (int place = 0; place < asked.count; place++) {
            int found = asked.valueAt(place);
            if (found == value) {
                return 1;
            }
            if (comesBefore(found, value, asked.state == DOWN)) {
                before++;
            }
        }
        return -1 - before;
    }

    public int state(int row) throws IndexOutOfBoundsException {
        return rowOf(row).state;
    }

    public int compare(int value, int other) throws IllegalArgumentException {
        needValue(value);
        needValue(other);
        if (value == other) {
            return 0;
        }
        return value > other ? -1 : 1;
    }

    public int copiesIn(int many, int value, int mark, int row)
            throws IndexOutOfBoundsException, IllegalArgumentException {
        Row asked = rowOf(row);
        needCopies(many);
        int card = cardOf(value, mark);
        spare.count = 0;
        spare.putCopiesBehind(many, card);
        return placeOfRow(asked, spare);
    }

    // ---- parts

    public int part(int part, int row, int from, int to) throws IndexOutOfBoundsException {
        Part laid = partOf(part);
        Row cards = rowOf(row);
        if (!isSpan(from, to, cards.count)) {
            throw new IndexOutOfBoundsException("no such span of the row");
        }
        lose(laid);
        laid.lay(cards, null, from, to);
        return laid.many();
    }

    public int inner(int part, int whole, int from, int to)
            throws IndexOutOfBoundsException, IllegalArgumentException, IllegalStateException {
        Part laid = partOf(part);
        Part outer = partOf(whole);
        needDifferent(part, whole);
        Row cards = needThere(outer);
        if (outer.isWithin(laid)) {
            throw new IllegalStateException("the whole lies within the part");
        }
        if (!isSpan(from, to, outer.many())) {
            throw new IllegalStateException("no such span of the whole");
        }
        lose(laid);
        laid.lay(cards, outer, outer.from + from, outer.from + to);
        return laid.many();
    }

    public int drop(int part) throws IndexOutOfBoundsException {
        Part dropped = partOf(part);
        int wasThere = dropped.isThere() ? 1 : 0;
        lose(dropped);
        return wasThere;
    }

    public int cut(int part) throws IndexOutOfBoundsException, IllegalStateException {
        Part emptied = partOf(part);
        Row changed = needThere(emptied);
        int many = emptied.many();
        changed.state = LOOSE;
        if (many > 0) {
            changed.takeOut(emptied.from, emptied.to);
            changed.next = NONE;
            shrinkAround(emptied, changed, many);
        }
        return many;
    }

    public int setIn(int part, int place, int value, int mark)
            throws IndexOutOfBoundsException, IllegalArgumentException, IllegalStateException {
        Part asked = partOf(part);
        int card = cardOf(value, mark);
        Row changed = needThere(asked);
        if (!asked.hasPlace(place)) {
            return REFUSED;
        }
        return exchangeCard(changed, asked.from + place, card);
    }

    public int reverseIn(int part) throws IndexOutOfBoundsException, IllegalStateException {
        Part asked = partOf(part);
        Row changed = needThere(asked);
        return turnSpan(changed, asked.from, asked.to);
    }

    public int rotateIn(int part, int by) throws IndexOutOfBoundsException, IllegalStateException {
        Part asked = partOf(part);
        Row changed = needThere(asked);
        return pushSpan(changed, asked.from, asked.to, by);
    }

    public int swapIn(int part, int a, int b)
            throws IndexOutOfBoundsException, IllegalStateException {
        Part asked = partOf(part);
        Row changed = needThere(asked);
        if (!asked.hasPlace(a) || !asked.hasPlace(b)) {
            return REFUSED;
        }
        return changePlaces(changed, asked.from + a, asked.from + b);
    }

    public int sortIn(int part) throws IndexOutOfBoundsException, IllegalStateException {
        Part asked = partOf(part);
        Row changed = needThere(asked);
        changed.arrange(asked.from, asked.to, false);
        changed.state = LOOSE;
        return changed.firstValue(asked.from, asked.to);
    }

    public String textIn(int part) throws IndexOutOfBoundsException {
        Part asked = partOf(part);
        StringBuilder ink = new StringBuilder();
        writePart(ink, asked);
        return ink.toString();
    }

    public int sizeIn(int part) throws IndexOutOfBoundsException {
        Part asked = partOf(part);
        return asked.isThere() ? asked.many() : NONE;
    }

    public int indexOfIn(int part, int row, boolean isPart)
            throws IndexOutOfBoundsException, IllegalStateException {
        Part asked = partOf(part);
        Row other = rowOf(row);
        Row cards = needThere(asked);
        if (isPart) {
            return other.placeOf(0, other.count, cards, asked.from, asked.to);
        }
        return cards.placeOf(asked.from, asked.to, other, 0, other.count);
    }

    // ---- views and walks: a VIEW has no cards of its own, it shows those that its ROW holds

    public int refuse(int row, int what, int other)
            throws IndexOutOfBoundsException, IllegalArgumentException {
        rowOf(row);
        rowOf(other);
        if (what < 0 || what > TOP_WISH) {
            throw new IllegalArgumentException("no such wish");
        }
        return REFUSED;
    }

    public String viewText(int row) throws IndexOutOfBoundsException {
        return textOf(rowOf(row));
    }

    public int viewFrequency(int row, int value, int mark)
            throws IndexOutOfBoundsException, IllegalArgumentException {
        Row shown = rowOf(row);
        return shown.howOften(cardOf(value, mark));
    }

    public int walk(int row) throws IndexOutOfBoundsException {
        Row walked = rowOf(row);
        walked.next = 0;
        return walked.count;
    }

    public int step(int row) throws IndexOutOfBoundsException, IllegalStateException {
        Row walked = rowOf(row);
        if (walked.next == NONE) {
            throw new IllegalStateException("there is no walk");
        }
        if (walked.next >= walked.count) {
            return REFUSED;
        }
        int value = walked.valueAt(walked.next);
        walked.next++;
        return value;
    }

    public int hasStep(int row) throws IndexOutOfBoundsException {
        return stepsLeft(rowOf(row));
    }

    // ---- the house

    public int house(int what) throws IllegalArgumentException {
        switch (what) {
            case 0:
                return allCards();
            case 1:
                return allParts();
            case 2:
                return allWalks();
            case 3:
                return knocks;
            default:
                throw new IllegalArgumentException("no such number of the house");
        }
    }

    public int knock() {
        knocks++;
        return knocks;
    }

    public boolean isSound() {
        for (Row row : rows) {
            if (!isRowSound(row)) {
                return false;
            }
        }
        for (Part part : parts) {
            if (!isPartSound(part)) {
                return false;
            }
        }
        return true;
    }

    public long digest() {
        StringBuilder ink = new StringBuilder();
        long d = mixHouse(DIGEST_START);
        for (Row row : rows) {
            d = mixRow(d, row, ink);
        }
        for (Row row : rows) {
            for (Row other : rows) {
                d = mix(d, haveNoneInCommon(row, other) ? 1 : 0);
                d = mix(d, placeOfRow(row, other));
            }
        }
        for (Part part : parts) {
            ink.setLength(0);
            writePart(ink, part);
            d = mixText(d, ink);
        }
        return mix(d, isSound() ? 1 : 0);
    }

    // ---- what a call needs

    private Row rowOf(int row) {
        if (row < 0 || row >= rows.length) {
            throw new IndexOutOfBoundsException("no such row");
        }
        return rows[row];
    }

    private Part partOf(int part) {
        if (part < 0 || part >= parts.length) {
            throw new IndexOutOfBoundsException("no such part");
        }
        return parts[part];
    }

    /** The row that a part is a span of, which is null only while the part is gone. */
    private static Row needThere(Part part) {
        Row row = part.row;
        if (row == null) {
            throw new IllegalStateException("the part is gone");
        }
        return row;
    }

    private static void needPlace(Row row, int place) {
        if (!row.hasPlace(place)) {
            throw new IndexOutOfBoundsException("no such place");
        }
    }

    private static void needRoom(Row row, int many) {
        if (row.count + many > ROOM) {
            throw new IllegalStateException("the row is full");
        }
    }

    private static void needDifferent(int one, int other) {
        if (one == other) {
            throw new IllegalArgumentException("both are the same");
        }
    }

    private static void needCopies(int many) {
        if (many < 0 || many > ROOM) {
            throw new IllegalArgumentException("no such number of copies");
        }
    }

    private static void needValue(int value) {
        if (value < 0 || value > TOP_VALUE) {
            throw new IllegalArgumentException("no such value");
        }
    }

    private static int cardOf(int value, int mark) {
        needValue(value);
        if (mark < 0 || mark >= MARKS) {
            throw new IllegalArgumentException("no such mark");
        }
        return value * MARKS + mark;
    }

    private static boolean isSpan(int from, int to, int count) {
        return from >= 0 && to <= count && from <= to;
    }

    // ---- what is done to a row, or to a span of it

    /** The places of the row are no more what they were: nothing that counts by them can stay. */
    private void reshape(Row row) {
        row.state = LOOSE;
        row.next = NONE;
        for (Part part : parts) {
            if (part.row == row) {
                part.row = null;
            }
        }
    }

    /** A call that came with no card has been done to the row all the same, but let all else be. */
    private void changeBy(Row row, int many) {
        row.state = LOOSE;
        if (many > 0) {
            reshape(row);
        }
    }

    private void lose(Part lost) {
        for (Part part : parts) {
            if (part.isWithin(lost)) {
                part.row = null;
            }
        }
    }

    private void shrinkAround(Part emptied, Row row, int many) {
        for (Part part : parts) {
            if (emptied.isWithin(part)) {
                part.to -= many;
            } else if (part.row == row) {
                part.row = null;
            }
        }
    }

    private static int exchangeCard(Row row, int place, int card) {
        int value = row.valueAt(place);
        row.put(place, card);
        row.state = LOOSE;
        return value;
    }

    private static int changePlaces(Row row, int a, int b) {
        row.exchange(a, b);
        row.state = LOOSE;
        return row.valueAt(a);
    }

    private static int turnSpan(Row row, int from, int to) {
        row.turn(from, to);
        row.state = LOOSE;
        return row.firstValue(from, to);
    }

    private static int pushSpan(Row row, int from, int to, int by) {
        row.push(from, to, by);
        row.state = LOOSE;
        return row.firstValue(from, to);
    }

    // ---- what is seen in rows and parts

    private static boolean comesBefore(int value, int other, boolean isDown) {
        return isDown ? value > other : value < other;
    }

    private static int extremeOf(Row row, boolean isLeast) {
        if (row.count == 0) {
            return REFUSED;
        }
        int extreme = row.valueAt(0);
        for (int place = 1; place < row.count; place++) {
            int value = row.valueAt(place);
            extreme = isLeast ? Math.min(extreme, value) : Math.max(extreme, value);
        }
        return extreme;
    }

    private static boolean haveNoneInCommon(Row row, Row other) {
        for (int place = 0; place < row.count; place++) {
            if (other.firstPlaceOf(row.cardAt(place)) != NONE) {
                return false;
            }
        }
        return true;
    }

    private static int placeOfRow(Row row, Row sought) {
        return row.placeOf(0, row.count, sought, 0, sought.count);
    }

    private static int stepsLeft(Row row) {
        if (row.next == NONE) {
            return NONE;
        }
        return row.next < row.count ? 1 : 0;
    }

    private int allCards() {
        int sum = 0;
        for (Row row : rows) {
            sum += row.count;
        }
        return sum;
    }

    private int allParts() {
        int sum = 0;
        for (Part part : parts) {
            if (part.isThere()) {
                sum++;
            }
        }
        return sum;
    }

    private int allWalks() {
        int sum = 0;
        for (Row row : rows) {
            if (row.next != NONE) {
                sum++;
            }
        }
        return sum;
    }

    /** That the VIEW is as its ROW needs no look: it shows the cards of the ROW itself. */
    private boolean isRowSound(Row row) {
        spare.becomeLike(row);
        spare.turn(0, spare.count);
        spare.turn(0, spare.count);
        spare.push(0, spare.count, 5);
        spare.push(0, spare.count, -5);
        if (!spare.isLike(row)) {
            return false;
        }
        spare.arrange(0, spare.count, false);
        for (int place = 0; place < row.count; place++) {
            int card = row.cardAt(place);
            if (spare.howOften(card) != row.howOften(card)) {
                return false;
            }
        }
        return row.count == 0 || spare.valueAt(0) == extremeOf(row, true);
    }

    private static boolean isPartSound(Part part) {
        Row row = part.row;
        return row == null || row.placeOf(0, row.count, row, part.from, part.to) != NONE;
    }

    // ---- texts and the checksum

    private static String textOf(Row row) {
        StringBuilder ink = new StringBuilder();
        writeSpan(ink, row, 0, row.count);
        return ink.toString();
    }

    private static void writePart(StringBuilder ink, Part part) {
        Row row = part.row;
        if (row == null) {
            ink.append('-');
        } else {
            writeSpan(ink, row, part.from, part.to);
        }
    }

    private static void writeSpan(StringBuilder ink, Row row, int from, int to) {
        ink.append('[');
        for (int place = from; place < to; place++) {
            if (place > from) {
                ink.append(", ");
            }
            ink.append(row.valueAt(place));
            ink.append('.');
            ink.append(row.markAt(place));
        }
        ink.append(']');
    }

    private static long mix(long d, long v) {
        return d * DIGEST_FACTOR + v;
    }

    private static long mixText(long d, StringBuilder ink) {
        long mixed = d;
        for (int i = 0; i < ink.length(); i++) {
            mixed = mix(mixed, ink.charAt(i));
        }
        return mixed;
    }

    private long mixHouse(long d) {
        long mixed = mix(d, allCards());
        mixed = mix(mixed, allParts());
        mixed = mix(mixed, allWalks());
        return mix(mixed, knocks);
    }

    private static long mixRow(long d, Row row, StringBuilder ink) {
        ink.setLength(0);
        writeSpan(ink, row, 0, row.count);
        long mixed = mixText(d, ink);
        mixed = mix(mixed, row.state);
        mixed = mix(mixed, extremeOf(row, false));
        mixed = mix(mixed, extremeOf(row, true));
        return mix(mixed, stepsLeft(row));
    }

    /** Cards in a row, each held as one number (ten times its VALUE and its MARK), and its walk. */
    private static final class Row {
        private final int[] cards = new int[ROOM];
        private int count = 0;
        private int state = LOOSE;
        /** The place of the card that the next step tells; NONE without a walk. */
        private int next = NONE;

        private boolean hasPlace(int place) {
            return place >= 0 && place < count;
        }

        private int cardAt(int place) {
            return place >= 0 && place < cards.length ? cards[place] : NONE;
        }

        private int valueAt(int place) {
            return cardAt(place) / MARKS;
        }

        private int markAt(int place) {
            return cardAt(place) % MARKS;
        }

        private int firstValue(int from, int to) {
            return from < to ? valueAt(from) : NONE;
        }

        private void put(int place, int card) {
            if (place >= 0 && place < cards.length) {
                cards[place] = card;
            }
        }

        private void putBehind(int card) {
            put(count, card);
            count++;
        }

        private void putBetween(int place, int card) {
            for (int free = count; free > place; free--) {
                put(free, cardAt(free - 1));
            }
            put(place, card);
            count++;
        }

        private void putCopiesBehind(int many, int card) {
            for (int copies = 0; copies < many; copies++) {
                putBehind(card);
            }
        }

        private void putAllBehind(Row added) {
            int many = added.count;
            for (int place = 0; place < many; place++) {
                putBehind(added.cardAt(place));
            }
        }

        private void becomeLike(Row model) {
            count = 0;
            putAllBehind(model);
        }

        private void takeOut(int from, int to) {
            for (int place = to; place < count; place++) {
                put(from + place - to, cardAt(place));
            }
            count -= to - from;
        }

        private void exchange(int a, int b) {
            int card = cardAt(a);
            put(a, cardAt(b));
            put(b, card);
        }

        private void turn(int from, int to) {
            int last = to - 1;
            for (int first = from; first < last; first++) {
                exchange(first, last);
                last--;
            }
        }

        /** Turned round as a whole and then in its two pieces, a span is pushed on in its place. */
        private void push(int from, int to, int by) {
            int many = to - from;
            if (many <= 0) {
                return;
            }
            int middle = from + Math.floorMod(by, many);
            turn(from, to);
            turn(from, middle);
            turn(middle, to);
        }

        private void arrange(int from, int to, boolean isDown) {
            for (int place = from + 1; place < to; place++) {
                settle(from, place, isDown);
            }
        }

        /** Goes past cards that must come behind it alone, so that like VALUES keep their sequence. */
        private void settle(int from, int place, boolean isDown) {
            int value = valueAt(place);
            for (int now = place; now > from; now--) {
                if (!comesBefore(value, valueAt(now - 1), isDown)) {
                    return;
                }
                exchange(now - 1, now);
            }
        }

        private int howOften(int card) {
            int often = 0;
            for (int place = 0; place < count; place++) {
                if (cardAt(place) == card) {
                    often++;
                }
            }
            return often;
        }

        private int firstPlaceOf(int card) {
            for (int place = 0; place < count; place++) {
                if (cardAt(place) == card) {
                    return place;
                }
            }
            return NONE;
        }

        private int lastPlaceOf(int card) {
            for (int place = count - 1; place >= 0; place--) {
                if (cardAt(place) == card) {
                    return place;
                }
            }
            return NONE;
        }

        private boolean isLike(Row other) {
            return count == other.count && hasFrom(0, other, 0, other.count);
        }

        private boolean hasFrom(int start, Row sought, int soughtFrom, int many) {
            for (int i = 0; i < many; i++) {
                if (cardAt(start + i) != sought.cardAt(soughtFrom + i)) {
                    return false;
                }
            }
            return true;
        }

        /** Where a span of the sought row stands in a span of this one, counted from its start. */
        private int placeOf(int from, int to, Row sought, int soughtFrom, int soughtTo) {
            int many = soughtTo - soughtFrom;
            for (int start = from; start + many <= to; start++) {
                if (hasFrom(start, sought, soughtFrom, many)) {
                    return start - from;
                }
            }
            return NONE;
        }
    }

    /** A span of a row; gone, while it has no row. */
    private static final class Part {
        private Row row = null;
        private Part whole = null;
        private int from = 0;
        private int to = 0;

        private void lay(Row row, Part whole, int from, int to) {
            this.row = row;
            this.whole = whole;
            this.from = from;
            this.to = to;
        }

        private boolean isThere() {
            return row != null;
        }

        private int many() {
            return to - from;
        }

        private boolean hasPlace(int place) {
            return place >= 0 && place < many();
        }

        /** A part that is gone keeps its whole, so that those within it are still found. */
        private boolean isWithin(Part outer) {
            for (Part part = this; part != null; part = part.whole) {
                if (part == outer) {
                    return true;
                }
            }
            return false;
        }
    }
}
