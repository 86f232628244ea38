/** All that can be asked of an object, as one text; what can be UNDONE and is KEPT is used up by it. */
final class Everything {
    private final OnlyWhatIsLost x;
    private final StringBuilder all = new StringBuilder();

    private Everything(OnlyWhatIsLost x) {
        this.x = x;
    }

    static String of(OnlyWhatIsLost x) {
        Everything everything = new Everything(x);
        everything.tellCounts();
        everything.tellThings();
        everything.tellCells();
        everything.tellMaps();
        everything.tellWhatWas();
        everything.tellText();
        return everything.all.toString();
    }

    private void tell(int answer) {
        all.append(answer).append(' ');
    }

    private void tellCounts() {
        all.append("counts ");
        for (int what = 0; what <= 9; what++) {
            tell(x.count(what));
        }
    }

    private void tellThings() {
        all.append("things ");
        for (int t = 0; t < x.count(1); t++) {
            for (int what = 0; what <= 3; what++) {
                tell(x.thing(t, what));
            }
        }
    }

    private void tellCells() {
        all.append("cells ");
        for (int cell = 0; cell < x.count(0); cell++) {
            tell(x.at(cell));
        }
    }

    private void tellMaps() {
        all.append("maps ");
        for (int m = 0; m < x.count(2); m++) {
            for (int what = 0; what <= 3; what++) {
                tell(x.map(m, what));
            }
        }
        tell(x.found(0));
        tell(x.found(1));
    }

    private void tellWhatWas() {
        for (int turn = 0; turn < 8 && x.count(7) > 0; turn++) {
            all.append("undone ");
            tell(x.undo());
            tell(x.count(3));
            tellThings();
        }
        for (int turn = 0; turn < 2 && x.count(8) > 0; turn++) {
            all.append("kept ");
            tell(x.back());
            tell(x.count(3));
            tellThings();
        }
    }

    private void tellText() {
        all.append("text ");
        tell(x.fault());
        tell(x.lay());
        tellThings();
        tell(x.wipe());
    }
}
