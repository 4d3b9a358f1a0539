/** What can be asked of an object without a change to it, as one text. */
final class Snapshot {
    private Snapshot() {
    }

    static String of(Rowtricks x) {
        StringBuilder ink = new StringBuilder();
        for (int row = 0; row < 4; row++) {
            ink.append(x.text(row)).append(x.state(row)).append(',').append(x.hasStep(row)).append(' ');
        }
        for (int part = 0; part < 3; part++) {
            ink.append(x.textIn(part)).append(' ');
        }
        return ink.append(x.digest()).toString();
    }
}
