import java.util.ArrayList;
import java.util.List;

/** All that can be asked of an object, in one row: two objects of like state answer like rows. It uses the object up. */
final class Reading {
    private final FarthestPays x;
    private final List<Long> row = new ArrayList<>();

    private Reading(FarthestPays x) {
        this.x = x;
    }

    static List<Long> of(FarthestPays x) {
        Reading reading = new Reading(x);
        reading.table();
        reading.sheets();
        reading.tape();
        // What the image holds is told once it has been restored.
        reading.row.add((long) x.restore());
        reading.table();
        reading.weights();
        return reading.row;
    }

    private void table() {
        for (int what = 0; what < 4; what++) {
            row.add((long) x.count(what));
        }
        for (int g = 0; g < x.count(0); g++) {
            row.add((long) x.told(g, 0));
            row.add((long) x.told(g, 1));
            row.add((long) x.leagues(g, 0));
        }
        for (int sum = 0; sum <= 20; sum++) {
            row.add((long) x.pay(sum));
        }
        row.add((long) x.knew());
        for (int what = 0; what < 2; what++) {
            int law = x.rule(what, 0);
            x.rule(what, law);
            row.add((long) law);
        }
    }

    private void weights() {
        for (int sum = 0; sum <= 20; sum++) {
            row.add((long) x.weight(sum, 0));
        }
    }

    private void sheets() {
        for (int sheet = 0; sheet < 4; sheet++) {
            for (int lane = 0; lane < 3; lane++) {
                for (int n = 1; n <= 4; n++) {
                    row.add(x.mixed(0, sheet, lane, 0, n, 0));
                }
                row.add(x.mixed(0, sheet, lane, 0, 4, 1));
            }
            row.add((long) x.drop(sheet));
        }
    }

    /** The tape's length, and the supper that it holds, or where the first fault is. */
    private void tape() {
        weights();
        row.add((long) x.type(' ', 1));
        row.add((long) x.supper());
        weights();
    }
}
