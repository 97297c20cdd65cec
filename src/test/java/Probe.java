import java.util.ArrayList;
import java.util.List;

/** What can be seen of an object from outside. A probe spoils the object; none takes more than 300 calls. */
enum Probe {
    SCHOOL, SHEETS, TAPE, IMAGE;

    List<Long> of(FortyReports x) {
        List<Long> row = new ArrayList<>();
        switch (this) {
            case SHEETS:
                sheets(x, row);
                break;
            case TAPE:
                row.add((long) x.text());
                school(x, row);
                break;
            case IMAGE:
                row.add((long) x.undo());
                school(x, row);
                row.add((long) x.burn());
                break;
            default:
                school(x, row);
                break;
        }
        return row;
    }

    private static void school(FortyReports x, List<Long> row) {
        for (int what = 0; what < 5; what++) {
            row.add((long) x.count(what));
        }
        for (int child = 0; child < x.count(0); child++) {
            for (int what = 0; what < 9; what++) {
                row.add((long) x.of(child, what));
            }
        }
        for (int line = 0; line < x.count(1); line++) {
            for (int what = 0; what < 7; what++) {
                row.add((long) x.lineOf(line, what));
            }
        }
        for (int what = 0; what < 4; what++) {
            row.add((long) x.now(what));
        }
    }

    private static void sheets(FortyReports x, List<Long> row) {
        for (int s = 0; s < 4; s++) {
            for (int t = 0; t < 4; t++) {
                // whether both are there, and of as many bits
                row.add((long) x.copy(s, 0, t, 0, 0));
            }
        }
        for (int s = 0; s < 4; s++) {
            for (int i = 0; i < 41; i++) {
                row.add(x.write(s, i, 0x0123456789abcdefL));
            }
            // what is left of that number tells the bits
            row.add(x.write(s, 0, 0L));
        }
    }
}
