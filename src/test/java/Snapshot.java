/** What an object tells of itself, as one text, to see whether a call changed it. */
final class Snapshot {
    private Snapshot() {
    }

    /** Text, STATE and walk of each row, each part, the digest; few calls, as an object has but 512 of them. */
    static String of(Rowtricks x) {
        StringBuilder ink = new StringBuilder();
        for (int row = 0; row < 4; row++) {
            ink.append(x.text(row)).append(x.state(row)).append(',').append(x.hasStep(row)).append(' ');
        }
        for (int part = 0; part < 3; part++) {
            ink.append(x.textIn(part)).append(' ');
        }
        return ink.append(x.digest()).toString();
    }

    /**
     * The rest: views, sizes and the house, and what changes alone can show: how far the walks are, and which
     * part is the WHOLE of which one (those within a part that is dropped are GONE).
     */
    static String inTheEnd(Rowtricks x) {
        StringBuilder ink = new StringBuilder();
        for (int row = 0; row < 4; row++) {
            ink.append(x.viewText(row)).append(x.size(row)).append(": ");
            for (int step = 0; step < 40 && x.hasStep(row) == 1; step++) {
                ink.append(x.step(row)).append(' ');
            }
        }
        for (int what = 0; what < 4; what++) {
            ink.append(x.house(what)).append(' ');
        }
        for (int part = 0; part < 3; part++) {
            ink.append(x.sizeIn(0)).append(' ').append(x.sizeIn(1)).append(' ').append(x.sizeIn(2)).append(' ');
            ink.append(x.drop(part)).append("; ");
        }
        return ink.append(x.knock()).toString();
    }
}
