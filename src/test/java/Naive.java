import java.util.ArrayDeque;
import java.util.ArrayList;
import java.util.Arrays;
import java.util.Deque;
import java.util.List;
import java.util.TreeSet;

/**
 * The document once more, written apart from the class and as near to its words as can be: schedules
 * by trying all beginnings, LATE by windows that are really turned round, sets by lists of tasks.
 */
final class Naive {
    static final int BAD = -1, STATE = -2, FULL = -3, NONE = -9;

    static final class Task {
        int early, late, length, need;
        int[] whyRule = {NONE, NONE};
        int[] whyBy = {NONE, NONE};

        Task copy() {
            Task t = new Task();
            t.early = early;
            t.late = late;
            t.length = length;
            t.need = need;
            t.whyRule = whyRule.clone();
            t.whyBy = whyBy.clone();
            return t;
        }

        int done() {
            return early + length;
        }

        int start() {
            return late - length;
        }

        int energy() {
            return length * need;
        }
    }

    private String text = "";
    private int room = 3;
    private List<Task> tasks = new ArrayList<>();
    private final Deque<List<Task>> before = new ArrayDeque<>();
    private final List<List<Task>> images = new ArrayList<>(Arrays.asList(null, null));

    private static List<Task> copy(List<Task> list) {
        List<Task> out = new ArrayList<>();
        for (Task t : list) {
            out.add(t.copy());
        }
        return out;
    }

    private static boolean broken(List<Task> list) {
        return list.stream().anyMatch(t -> t.done() > t.late);
    }

    // ---- the text

    int type(int letter) {
        if (letter < 0 || letter > 255) {
            return BAD;
        }
        if (text.length() == 100) {
            return FULL;
        }
        text += (char) letter;
        return text.length();
    }

    int clear() {
        int had = text.length();
        text = "";
        return had;
    }

    int desk() {
        List<String> words = new ArrayList<>();
        List<Integer> places = new ArrayList<>();
        for (int p = 0; p < text.length();) {
            int q = p + 1;
            if (text.charAt(p) != ' ') {
                while (digit(p) && q < text.length() && digit(q)) {
                    q++;
                }
                words.add(text.substring(p, q));
                places.add(p);
            }
            p = q;
        }
        int newRoom = 3;
        List<Task> list = new ArrayList<>();
        int items = 0;
        int w = 0;
        while (w < words.size()) {
            String head = words.get(w);
            boolean c = head.equals("c") && items == 0;
            boolean t = head.equals("t") && list.size() < 5;
            if (!c && !t) {
                return -10 - places.get(w);
            }
            int[] v = new int[4];
            int many = c ? 1 : 4;
            for (int k = 0; k < many; k++) {
                int at = w + 1 + k;
                if (at >= words.size()) {
                    return -10 - text.length();
                }
                v[k] = number(words.get(at));
                boolean ok = c ? v[0] >= 1 && v[0] <= 20
                    : k == 0 ? v[0] >= 0 && v[0] <= 15
                    : k == 1 ? v[1] >= 1 && v[1] <= 16 && v[1] > v[0]
                    : k == 2 ? v[2] >= 1 && v[2] <= 9 && v[2] <= v[1] - v[0]
                    : v[3] >= 1 && v[3] <= 9 && v[3] <= newRoom;
                if (!ok) {
                    return -10 - places.get(at);
                }
            }
            int end = w + 1 + many;
            if (end >= words.size()) {
                return -10 - text.length();
            }
            if (!words.get(end).equals(";")) {
                return -10 - places.get(end);
            }
            if (c) {
                newRoom = v[0];
            } else {
                Task n = new Task();
                n.early = v[0];
                n.late = v[1];
                n.length = v[2];
                n.need = v[3];
                list.add(n);
            }
            items++;
            w = end + 1;
        }
        room = newRoom;
        tasks = list;
        text = "";
        before.clear();
        images.set(0, null);
        images.set(1, null);
        return items;
    }

    private boolean digit(int p) {
        return text.charAt(p) >= '0' && text.charAt(p) <= '9';
    }

    private static int number(String word) {
        return word.matches("0|[1-9][0-9]?") ? Integer.parseInt(word) : -1;
    }

    // ---- what is told

    int task(int i, int what) {
        if (i < 0 || i >= tasks.size() || what < 0 || what > 5) {
            return BAD;
        }
        Task t = tasks.get(i);
        if (what < 4) {
            return new int[] {t.early, t.late, t.length, t.need}[what];
        }
        List<int[]> all = schedules();
        if (what == 5) {
            return all.isEmpty() ? NONE : all.get(0)[i];
        }
        TreeSet<Integer> seen = new TreeSet<>();
        for (int[] s : all) {
            seen.add(s[i]);
        }
        int bits = 0;
        for (int s : seen) {
            bits += 1 << s;
        }
        return bits;
    }

    int why(int i, int side, int what) {
        if (i < 0 || i >= tasks.size() || side < 0 || side > 1 || what < 0 || what > 1) {
            return BAD;
        }
        return what == 0 ? tasks.get(i).whyRule[side] : tasks.get(i).whyBy[side];
    }

    int must(int time) {
        if (time < 0 || time > 15) {
            return BAD;
        }
        int sum = 0;
        for (Task t : tasks) {
            sum += musts(t).contains(time) ? t.need : 0;
        }
        return sum;
    }

    private static List<Integer> musts(Task t) {
        List<Integer> times = new ArrayList<>();
        for (int time = t.start(); time <= t.done() - 1; time++) {
            times.add(time);
        }
        return times;
    }

    // ---- rules

    int tightens(int rule) {
        if (rule < 0 || rule > 4) {
            return BAD;
        }
        if (broken(tasks)) {
            return STATE;
        }
        remember();
        List<Task> was = copy(tasks);
        if (rule < 4) {
            both(rule);
        } else {
            boolean change = true;
            while (change && !broken(tasks)) {
                List<Task> round = copy(tasks);
                for (int r = 0; r < 4 && !broken(tasks); r++) {
                    both(r);
                }
                change = differ(round) > 0;
            }
        }
        return differ(was);
    }

    private int differ(List<Task> was) {
        int n = 0;
        for (int i = 0; i < was.size(); i++) {
            n += was.get(i).early == tasks.get(i).early ? 0 : 1;
            n += was.get(i).late == tasks.get(i).late ? 0 : 1;
        }
        return n;
    }

    private void both(int rule) {
        earlier(rule, 0);
        if (!broken(tasks)) {
            turn();
            earlier(rule, 1);
            turn();
        }
    }

    private void turn() {
        for (Task t : tasks) {
            int e = 16 - t.late;
            t.late = 16 - t.early;
            t.early = e;
        }
    }

    /** As tasks stand (turned or not) EARLY of each becomes what a rule tells. */
    private void earlier(int rule, int side) {
        List<Task> asTheyAre = copy(tasks);
        for (int i = 0; i < tasks.size(); i++) {
            List<int[]> told = tellings(rule, i, asTheyAre);
            int greatest = told.stream().mapToInt(p -> p[0]).max().orElse(-1);
            int by = told.stream().filter(p -> p[0] == greatest).mapToInt(p -> p[1]).min().orElse(-1);
            Task t = tasks.get(i);
            if (greatest > t.early) {
                t.early = greatest + t.length > t.late ? t.start() + 1 : greatest;
                t.whyRule[side] = rule;
                t.whyBy[side] = by;
            }
        }
    }

    private List<int[]> tellings(int rule, int i, List<Task> w) {
        return rule == 0 ? tellMust(i, w) : rule == 1 ? tellEdge(i, w) : rule == 2 ? tellFirst(i, w) : tellSpan(i, w);
    }

    private List<int[]> tellMust(int i, List<Task> w) {
        Task t = w.get(i);
        for (int e = t.early; e + t.length <= t.late; e++) {
            boolean good = true;
            for (int time = e; time < e + t.length; time++) {
                int sum = t.need;
                for (int k = 0; k < w.size(); k++) {
                    sum += k != i && musts(w.get(k)).contains(time) ? w.get(k).need : 0;
                }
                good &= sum <= room;
            }
            if (good) {
                return List.of(new int[] {e, 0});
            }
        }
        return List.of(new int[] {99, 0});
    }

    private static List<Task> pick(List<Task> w, int set) {
        List<Task> out = new ArrayList<>();
        for (int k = 0; k < w.size(); k++) {
            if ((set & 1 << k) != 0) {
                out.add(w.get(k));
            }
        }
        return out;
    }

    private static int earlyOf(List<Task> s) {
        return s.stream().mapToInt(t -> t.early).min().getAsInt();
    }

    private static int lateOf(List<Task> s) {
        return s.stream().mapToInt(t -> t.late).max().getAsInt();
    }

    private static int doneOf(List<Task> s) {
        return s.stream().mapToInt(Task::done).min().getAsInt();
    }

    private static int energyOf(List<Task> s) {
        return s.stream().mapToInt(Task::energy).sum();
    }

    private List<int[]> tellEdge(int i, List<Task> w) {
        List<int[]> told = new ArrayList<>();
        Task t = w.get(i);
        for (int set = 1; set < 1 << w.size(); set++) {
            if ((set & 1 << i) != 0) {
                continue;
            }
            List<Task> s = pick(w, set);
            if (energyOf(s) + t.energy() <= room * (lateOf(s) - Math.min(earlyOf(s), t.early))) {
                continue;
            }
            for (int part = 1; part <= set; part++) {
                if ((part | set) != set) {
                    continue;
                }
                List<Task> p = pick(w, part);
                int rest = energyOf(p) - (room - t.need) * (lateOf(p) - earlyOf(p));
                if (rest > 0) {
                    int up = rest / t.need + (rest % t.need == 0 ? 0 : 1);
                    told.add(new int[] {earlyOf(p) + up, set});
                }
            }
        }
        return told;
    }

    private List<int[]> tellFirst(int i, List<Task> w) {
        List<int[]> told = new ArrayList<>();
        Task t = w.get(i);
        for (int set = 1; set < 1 << w.size(); set++) {
            List<Task> s = pick(w, set);
            if (!s.contains(t) && earlyOf(s) <= t.early && t.early < doneOf(s)
                && energyOf(s) + t.need * (Math.min(t.done(), lateOf(s)) - earlyOf(s))
                    > room * (lateOf(s) - earlyOf(s))) {
                told.add(new int[] {doneOf(s), set});
            }
        }
        return told;
    }

    private static int least(Task t, int a, int b) {
        int[] of = {t.length, b - a, t.done() - a, b - t.start()};
        return t.need * Math.max(0, Arrays.stream(of).min().getAsInt());
    }

    private List<int[]> tellSpan(int i, List<Task> w) {
        List<int[]> told = new ArrayList<>();
        Task t = w.get(i);
        for (int a = 0; a <= 16; a++) {
            for (int b = a + 1; b <= 16; b++) {
                int free = room * (b - a);
                for (int k = 0; k < w.size(); k++) {
                    free -= k == i ? 0 : least(w.get(k), a, b);
                }
                if (free >= 0 && t.done() > a
                    && t.need * Math.min(t.length, Math.min(b - a, t.done() - a)) > free) {
                    told.add(new int[] {b - free / t.need, 100 * a + b});
                }
            }
        }
        return told;
    }

    // ---- put, undone

    private void remember() {
        before.addLast(copy(tasks));
        if (before.size() > 10) {
            before.removeFirst();
        }
    }

    int puts(int i, int side, int v) {
        if (i < 0 || i >= tasks.size() || side < 0 || side > 1 || v < 0 || v > 16) {
            return BAD;
        }
        Task t = tasks.get(i);
        int was = side == 0 ? t.early : t.late;
        int e = side == 0 ? v : t.early;
        int l = side == 0 ? t.late : v;
        boolean narrower = side == 0 ? v > was : v < was;
        if (broken(tasks) || !narrower || e + t.length > l) {
            return STATE;
        }
        remember();
        t.early = e;
        t.late = l;
        t.whyRule[side] = NONE;
        t.whyBy[side] = NONE;
        return was;
    }

    int undo() {
        if (before.isEmpty()) {
            return STATE;
        }
        tasks = before.removeLast();
        return before.size();
    }

    // ---- what there is

    private List<int[]> schedules() {
        List<int[]> out = new ArrayList<>();
        int[] needs = tasks.stream().mapToInt(t -> t.need).toArray();
        tryAll(new int[tasks.size()], 0, needs, new int[40], out, Integer.MAX_VALUE);
        return out;
    }

    private void tryAll(int[] begins, int i, int[] needs, int[] load, List<int[]> out, int most) {
        if (out.size() >= most) {
            return;
        }
        if (i == begins.length) {
            out.add(begins.clone());
            return;
        }
        Task t = tasks.get(i);
        for (int s = t.early; s + t.length <= t.late; s++) {
            boolean good = true;
            for (int time = s; time < s + t.length; time++) {
                load[time] += needs[i];
                good &= load[time] <= room;
            }
            begins[i] = s;
            if (good) {
                tryAll(begins, i + 1, needs, load, out, most);
            }
            for (int time = s; time < s + t.length; time++) {
                load[time] -= needs[i];
            }
        }
    }

    int wrap(int set) {
        if (set <= 0 || set >= 1 << tasks.size()) {
            return BAD;
        }
        int most = Integer.MIN_VALUE;
        for (int part = 1; part <= set; part++) {
            if ((part & ~set) == 0) {
                List<Task> p = pick(tasks, part);
                most = Math.max(most, room * earlyOf(p) + energyOf(p));
            }
        }
        return most;
    }

    int grey(int set, int other, int what) {
        int top = 1 << tasks.size();
        if (set < 0 || set >= top || other <= 0 || other >= top || (set & other) != 0 || what < 0 || what > 1) {
            return BAD;
        }
        int best = Integer.MIN_VALUE;
        int which = -1;
        for (int i = tasks.size() - 1; i >= 0; i--) {
            if ((other & 1 << i) != 0 && wrap(set + (1 << i)) >= best) {
                best = wrap(set + (1 << i));
                which = i;
            }
        }
        return what == 0 ? best : which;
    }

    int odds(int x, int what) {
        if (x < 0 || x > 10 || what < 0 || what > 1) {
            return BAD;
        }
        int n = tasks.size();
        long upper = 0;
        long lower = Math.round(Math.pow(10, n));
        for (int grown = 0; grown < 1 << n; grown++) {
            long weight = 1;
            int[] needs = new int[n];
            for (int i = 0; i < n; i++) {
                boolean grows = (grown & 1 << i) != 0;
                weight *= grows ? x : 10 - x;
                needs[i] = grows ? Math.min(room, tasks.get(i).need + 1) : tasks.get(i).need;
            }
            List<int[]> one = new ArrayList<>();
            tryAll(new int[n], 0, needs, new int[40], one, 1);
            upper += one.isEmpty() ? 0 : weight;
        }
        for (long d = lower; d > 1; d--) {
            if (upper % d == 0 && lower % d == 0) {
                upper /= d;
                lower /= d;
            }
        }
        return (int) (what == 0 ? upper : lower);
    }

    // ---- images

    int keep(int image) {
        if (image < 0 || image > 1) {
            return BAD;
        }
        images.set(image, copy(tasks));
        return tasks.size();
    }

    int back(int image) {
        if (image < 0 || image > 1) {
            return BAD;
        }
        if (images.get(image) == null) {
            return STATE;
        }
        tasks = copy(images.get(image));
        before.clear();
        return tasks.size();
    }

    int count(int what) {
        switch (what) {
            case 0:
                return tasks.size();
            case 1:
                return room;
            case 2:
                return broken(tasks) ? 1 : 0;
            case 3:
                return Math.min(9999, schedules().size());
            case 4:
                return shortest();
            case 5:
                return heavy();
            case 6:
                return energyOf(tasks);
            case 7:
                return text.length();
            case 8:
                return before.size();
            default:
                return BAD;
        }
    }

    private int shortest() {
        int best = 99;
        for (int[] s : schedules()) {
            int end = 0;
            for (int i = 0; i < s.length; i++) {
                end = Math.max(end, s[i] + tasks.get(i).length);
            }
            best = Math.min(best, end);
        }
        return best == 99 ? NONE : best;
    }

    private int heavy() {
        int span = NONE;
        int most = 0;
        for (int a = 0; a <= 16; a++) {
            for (int b = a + 1; b <= 16; b++) {
                int over = -room * (b - a);
                for (Task t : tasks) {
                    over += least(t, a, b);
                }
                if (over > most) {
                    most = over;
                    span = 100 * a + b;
                }
            }
        }
        return span;
    }
}
