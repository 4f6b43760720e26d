import java.util.ArrayList;
import java.util.List;

/** All that can be seen of an object, as one row of answers: two objects alike answer alike. */
final class Probe {
    private Probe() {
    }

    /** What can be asked without changing anything. */
    static int[] sights(WindowDesk x) {
        List<Integer> row = new ArrayList<>();
        look(x, row);
        for (int set = 1; set < 32; set++) {
            row.add(x.wrap(set));
        }
        for (int by = 0; by <= 10; by += 5) {
            row.add(x.odds(by, 0));
            row.add(x.odds(by, 1));
        }
        for (int i = 0; i < 5; i++) {
            row.add(x.task(i, 4));
            row.add(x.task(i, 5));
        }
        return asArray(row);
    }

    /** What comes out when all is undone and each image comes back; the object is spent then. */
    static int[] all(WindowDesk x) {
        List<Integer> row = new ArrayList<>();
        for (int answer : sights(x)) {
            row.add(answer);
        }
        for (int k = 0; k < 11; k++) {
            row.add(x.undo());
            windows(x, row);
        }
        for (int image = 0; image < 2; image++) {
            row.add(x.back(image));
            windows(x, row);
        }
        row.add(x.desk());
        row.add(x.clear());
        look(x, row);
        return asArray(row);
    }

    private static void look(WindowDesk x, List<Integer> row) {
        for (int what = 0; what < 9; what++) {
            row.add(x.count(what));
        }
        windows(x, row);
        for (int i = 0; i < 5; i++) {
            row.add(x.task(i, 2));
            row.add(x.task(i, 3));
            for (int side = 0; side < 2; side++) {
                row.add(x.why(i, side, 0));
                row.add(x.why(i, side, 1));
            }
        }
        for (int time = 0; time < 16; time++) {
            row.add(x.must(time));
        }
    }

    private static void windows(WindowDesk x, List<Integer> row) {
        for (int i = 0; i < 5; i++) {
            row.add(x.task(i, 0));
            row.add(x.task(i, 1));
        }
    }

    private static int[] asArray(List<Integer> row) {
        return row.stream().mapToInt(Integer::intValue).toArray();
    }
}
