import java.util.ArrayList;
import java.util.List;
import java.util.Map;
import java.util.TreeMap;
import java.util.regex.Matcher;
import java.util.regex.Pattern;

/**
 * The document told a second time, day by day and word by word, without regard to speed: what
 * ModelTest holds the program against. It shares no code and no way of working with it.
 */
final class NaiveStrips {
    private static final Pattern WHOLE = Pattern.compile(whole());

    private static final class Bar {
        final int lane;
        final int first;
        final int days;

        Bar(int lane, int first, int days) {
            this.lane = lane;
            this.first = first;
            this.days = days;
        }

        int end() {
            return first + days;
        }
    }

    private static final class Arrow {
        final int from;
        final int to;

        Arrow(int from, int to) {
            this.from = from;
            this.to = to;
        }
    }

    private static final class State {
        final TreeMap<Integer, Bar> bars = new TreeMap<>();
        final TreeMap<Integer, Arrow> arrows = new TreeMap<>();
        final int[] widths = new int[200];
        final int[] settings = {0, 60};
        int barsEver;
        int arrowsEver;
        int slipped;
        private int[][] grid;

        State() {
            java.util.Arrays.fill(widths, 2);
        }

        State copy() {
            State other = new State();
            other.bars.putAll(bars);
            other.arrows.putAll(arrows);
            System.arraycopy(widths, 0, other.widths, 0, 200);
            System.arraycopy(settings, 0, other.settings, 0, 2);
            other.barsEver = barsEver;
            other.arrowsEver = arrowsEver;
            other.slipped = slipped;
            return other;
        }

        void put(int number, Bar bar) {
            bars.put(number, bar);
            grid = null;
        }

        int occupant(int lane, int day) {
            if (grid == null) {
                grid = new int[12][200];
                for (int[] row : grid) {
                    java.util.Arrays.fill(row, -5);
                }
                bars.forEach((n, b) -> java.util.Arrays.fill(grid[b.lane], b.first, b.end(), n));
            }
            return grid[lane][day];
        }

        int greatestEnd() {
            return bars.values().stream().mapToInt(Bar::end).max().orElse(0);
        }

        boolean late(Arrow a) {
            return bars.get(a.to).first < bars.get(a.from).end();
        }

        boolean reaches(int start, int goal) {
            if (start == goal) {
                return true;
            }
            for (Arrow a : arrows.values()) {
                if (a.from == start && reaches(a.to, goal)) {
                    return true;
                }
            }
            return false;
        }

        boolean pushes(int one, int other) {
            if (one == other) {
                return false;
            }
            for (Arrow a : arrows.values()) {
                if (a.from == one && a.to == other && !late(a)) {
                    return true;
                }
            }
            Bar b = bars.get(one);
            Bar o = bars.get(other);
            return b.lane == o.lane && o.first > b.first;
        }

        int reason(Arrow a, int c) {
            Bar f = bars.get(a.from);
            Bar t = bars.get(a.to);
            if (late(a) || c < f.end() || c > t.first) {
                return 1;
            }
            for (int d = f.end(); d <= c - 1; d++) {
                if (occupant(f.lane, d) >= 0) {
                    return 2;
                }
            }
            for (int d = c; d <= t.first - 1; d++) {
                if (occupant(t.lane, d) >= 0) {
                    return 3;
                }
            }
            for (int l = Math.min(f.lane, t.lane) + 1; l < Math.max(f.lane, t.lane); l++) {
                int here = occupant(l, c);
                if (here >= 0 && here == occupant(l, c - 1)) {
                    return 4;
                }
            }
            return 0;
        }

        List<Integer> free(Arrow a) {
            List<Integer> free = new ArrayList<>();
            Bar f = bars.get(a.from);
            Bar t = bars.get(a.to);
            for (int c = f.end(); c <= t.first; c++) {
                if (reason(a, c) == 0) {
                    free.add(c);
                }
            }
            return free;
        }

        int bend(Arrow a) {
            List<Integer> free = free(a);
            if (free.isEmpty()) {
                return -5;
            }
            if (settings[0] == 0) {
                return free.get(0);
            }
            if (settings[0] == 1) {
                return free.get(free.size() - 1);
            }
            int best = free.get(0);
            for (int c : free) {
                if (difference(a, c) < difference(a, best)) {
                    best = c;
                }
            }
            return best;
        }

        int difference(Arrow a, int c) {
            int ahead = c - bars.get(a.from).end();
            int behind = bars.get(a.to).first - c;
            return Math.abs(ahead - behind);
        }

        TreeMap<Integer, Integer> bends() {
            TreeMap<Integer, Integer> bends = new TreeMap<>();
            arrows.forEach((n, a) -> bends.put(n, bend(a)));
            return bends;
        }

        int undrawn() {
            return (int) bends().values().stream().filter(c -> c == -5).count();
        }

        /** The lane along which an arrow goes, by days; -1 where it goes along none. */
        int[] path(Arrow a, int bend) {
            int[] path = new int[201];
            java.util.Arrays.fill(path, -1);
            for (int d = bars.get(a.from).end(); d <= bend - 1; d++) {
                path[d] = bars.get(a.from).lane;
            }
            for (int d = bend; d <= bars.get(a.to).first - 1; d++) {
                path[d] = bars.get(a.to).lane;
            }
            return path;
        }

        /** How many points lie on the bend of the one at which it crosses the other. */
        int pointsOnBend(int one, int other, Map<Integer, Integer> bends) {
            int c = bends.get(one);
            if (one == other || c == -5 || bends.get(other) == -5) {
                return 0;
            }
            int points = 0;
            int[] path = path(arrows.get(other), bends.get(other));
            int from = bars.get(arrows.get(one).from).lane;
            int to = bars.get(arrows.get(one).to).lane;
            for (int l = Math.min(from, to) + 1; l < Math.max(from, to); l++) {
                if (path[c - 1] == l && path[c] == l) {
                    points++;
                }
            }
            return points;
        }

        int points(int only) {
            Map<Integer, Integer> bends = bends();
            int points = 0;
            for (int one : arrows.keySet()) {
                for (int other : arrows.keySet()) {
                    if (only < 0 || one == only || other == only) {
                        points += pointsOnBend(one, other, bends);
                    }
                }
            }
            return points;
        }

        /** The first days if a bar slipped: raised again and again until all pushes are kept. */
        TreeMap<Integer, Integer> slip(int bar, int days) {
            TreeMap<Integer, Integer> first = new TreeMap<>();
            bars.forEach((n, b) -> first.put(n, b.first));
            first.put(bar, first.get(bar) + days);
            List<int[]> pushing = new ArrayList<>();
            for (int one : bars.keySet()) {
                for (int other : bars.keySet()) {
                    if (pushes(one, other)) {
                        pushing.add(new int[] {one, other});
                    }
                }
            }
            boolean again = true;
            while (again) {
                again = false;
                for (int[] pair : pushing) {
                    int end = first.get(pair[0]) + bars.get(pair[0]).days;
                    if (first.get(pair[1]) < end) {
                        first.put(pair[1], end);
                        again = true;
                    }
                }
            }
            return first;
        }

        int greatestEnd(Map<Integer, Integer> first) {
            int greatest = 0;
            for (Map.Entry<Integer, Integer> e : first.entrySet()) {
                greatest = Math.max(greatest, e.getValue() + bars.get(e.getKey()).days);
            }
            return greatest;
        }

        int slack(int bar) {
            int slack = 0;
            while (greatestEnd(slip(bar, slack + 1)) == greatestEnd()) {
                slack++;
            }
            return slack;
        }

        int longestFrom(int bar, Map<Integer, Integer> known) {
            if (known.containsKey(bar)) {
                return known.get(bar);
            }
            int most = 0;
            for (int other : bars.keySet()) {
                if (pushes(bar, other)) {
                    most = Math.max(most, longestFrom(other, known));
                }
            }
            known.put(bar, most + bars.get(bar).days);
            return most + bars.get(bar).days;
        }

        int width(int from, int end) {
            int sum = 0;
            for (int d = from; d < end; d++) {
                sum += widths[d];
            }
            return sum;
        }

        /** The strips, each as a list of its days. */
        List<List<Integer>> strips() {
            List<List<Integer>> strips = new ArrayList<>();
            int day = 0;
            while (day < greatestEnd()) {
                List<Integer> strip = new ArrayList<>();
                strip.add(day);
                while (day + 1 < greatestEnd()
                        && width(strip.get(0), day + 2) <= settings[1]) {
                    day++;
                    strip.add(day);
                }
                day++;
                strips.add(strip);
            }
            return strips;
        }

        int stripOf(int day) {
            List<List<Integer>> strips = strips();
            for (int i = 0; i < strips.size(); i++) {
                if (strips.get(i).contains(day)) {
                    return i;
                }
            }
            throw new IllegalStateException("no strip has day " + day);
        }

        int lanesWithBars() {
            return (int) bars.values().stream().mapToInt(b -> b.lane).distinct().count();
        }

        boolean room(int lane, int day, int days, int except) {
            for (int d = day; d < day + days; d++) {
                int there = occupant(lane, d);
                if (there >= 0 && there != except) {
                    return false;
                }
            }
            return true;
        }

        State swapped(int lane, int other) {
            State next = copy();
            for (Map.Entry<Integer, Bar> e : bars.entrySet()) {
                Bar b = e.getValue();
                int to = b.lane == lane ? other : b.lane == other ? lane : b.lane;
                next.put(e.getKey(), new Bar(to, b.first, b.days));
            }
            return next;
        }

        int addBar(int lane, int day, int days) {
            if (lane < 0 || lane > 11) {
                return -1;
            }
            if (day < 0 || day > 199 || days < 1 || days > 30 || day + days > 200) {
                return -2;
            }
            if (!room(lane, day, days, -1)) {
                return -4;
            }
            if (bars.size() == 30 || barsEver == 90) {
                return -3;
            }
            put(barsEver, new Bar(lane, day, days));
            return barsEver++;
        }

        int addArrow(int from, int to) {
            if (!bars.containsKey(from) || !bars.containsKey(to)) {
                return -1;
            }
            for (Arrow a : arrows.values()) {
                if (a.from == from && a.to == to) {
                    return -4;
                }
            }
            if (reaches(to, from)) {
                return -4;
            }
            if (arrows.size() == 40 || arrowsEver == 200) {
                return -3;
            }
            arrows.put(arrowsEver, new Arrow(from, to));
            return arrowsEver++;
        }
    }

    private State state = new State();
    private State snapshot;
    private final List<State> history = new ArrayList<>();
    private String text = "";

    private static String whole() {
        String lane = "(?:[0-9]|1[01])";
        String day = "(?:[0-9]|[1-9][0-9]|1[0-9][0-9])";
        String days = "(?:[1-9]|[12][0-9]|30)";
        String bar = "(?:[0-9]|[1-8][0-9])";
        String part = "(?:" + lane + "@" + day + "\\+" + days + "|" + bar + ">" + bar + ")";
        return part + "(?:;" + part + ")*";
    }

    private int act(State next, int answer) {
        if (answer >= 0) {
            history.add(state);
            if (history.size() > 4) {
                history.remove(0);
            }
            state = next;
        }
        return answer;
    }

    int bar(int lane, int day, int days) {
        State next = state.copy();
        return act(next, next.addBar(lane, day, days));
    }

    int arrow(int from, int to) {
        State next = state.copy();
        return act(next, next.addArrow(from, to));
    }

    int addAll() {
        int fault = fault();
        if (fault != -5) {
            return -100 - fault;
        }
        State next = state.copy();
        String[] parts = text.split(";");
        for (String part : parts) {
            String[] numbers = part.split("[@+>]");
            int one = Integer.parseInt(numbers[0]);
            int two = Integer.parseInt(numbers[1]);
            int answer = numbers.length == 2 ? next.addArrow(one, two)
                    : next.addBar(one, two, Integer.parseInt(numbers[2]));
            if (answer < 0) {
                return answer;
            }
        }
        return act(next, parts.length);
    }

    int takeBar(int bar) {
        if (!state.bars.containsKey(bar)) {
            return -1;
        }
        State next = state.copy();
        next.bars.remove(bar);
        next.arrows.values().removeIf(a -> a.from == bar || a.to == bar);
        return act(next, state.arrows.size() - next.arrows.size());
    }

    int takeArrow(int arrow) {
        if (!state.arrows.containsKey(arrow)) {
            return -1;
        }
        State next = state.copy();
        return act(next, next.arrows.remove(arrow).to);
    }

    int move(int bar, int lane, int day) {
        Bar b = state.bars.get(bar);
        if (b == null || lane < 0 || lane > 11) {
            return -1;
        }
        if (day < 0 || day > 199 || day + b.days > 200) {
            return -2;
        }
        if (!state.room(lane, day, b.days, bar)) {
            return -4;
        }
        if (b.lane == lane && b.first == day) {
            return -5;
        }
        State next = state.copy();
        next.put(bar, new Bar(lane, day, b.days));
        return act(next, next.undrawn());
    }

    int swap(int lane, int other) {
        if (lane < 0 || lane > 11 || other < 0 || other > 11) {
            return -1;
        }
        boolean any = state.bars.values().stream().anyMatch(b -> b.lane == lane || b.lane == other);
        if (lane == other || !any) {
            return -5;
        }
        State next = state.swapped(lane, other);
        return act(next, next.undrawn());
    }

    int pack() {
        List<Integer> turns = new ArrayList<>(state.bars.keySet());
        turns.sort((x, y) -> state.bars.get(x).first != state.bars.get(y).first
                ? state.bars.get(x).first - state.bars.get(y).first : x - y);
        State next = state.copy();
        next.bars.clear();
        boolean same = true;
        for (int bar : turns) {
            Bar b = state.bars.get(bar);
            int lane = 0;
            while (!next.room(lane, b.first, b.days, -1)) {
                lane++;
            }
            if (lane > 11) {
                return -4;
            }
            same = same && lane == b.lane;
            next.put(bar, new Bar(lane, b.first, b.days));
        }
        return act(next, same ? -5 : next.lanesWithBars());
    }

    int slip(int bar, int days) {
        if (!state.bars.containsKey(bar)) {
            return -1;
        }
        if (days < 1 || days > 30) {
            return -2;
        }
        TreeMap<Integer, Integer> first = state.slip(bar, days);
        if (state.greatestEnd(first) > 200) {
            return -4;
        }
        State next = state.copy();
        int moved = 0;
        for (int n : state.bars.keySet()) {
            Bar b = state.bars.get(n);
            next.put(n, new Bar(b.lane, first.get(n), b.days));
            next.slipped += first.get(n) - b.first;
            moved += first.get(n) == b.first ? 0 : 1;
        }
        return act(next, moved);
    }

    int pull(int bar) {
        Bar b = state.bars.get(bar);
        if (b == null) {
            return -1;
        }
        int day = 0;
        for (int other : state.bars.keySet()) {
            if (state.pushes(other, bar)) {
                day = Math.max(day, state.bars.get(other).end());
            }
        }
        State next = state.copy();
        next.put(bar, new Bar(b.lane, day, b.days));
        return act(next, day == b.first ? -5 : b.first - day);
    }

    int width(int from, int to, int width) {
        if (from < 0 || from > 199 || to < from || to > 199 || width < 1 || width > 9) {
            return -2;
        }
        State next = state.copy();
        int changed = 0;
        for (int d = from; d <= to; d++) {
            changed += next.widths[d] == width ? 0 : 1;
            next.widths[d] = width;
        }
        return act(next, changed == 0 ? -5 : changed);
    }

    int set(int which, int value) {
        boolean good = which == 0 && value >= 0 && value <= 2
                || which == 1 && value >= 10 && value <= 999;
        if (!good) {
            return -2;
        }
        State next = state.copy();
        next.settings[which] = value;
        int previous = state.settings[which];
        return act(next, previous == value ? -5 : previous);
    }

    int type(char character) {
        if (text.length() == 60) {
            return -3;
        }
        text += character;
        return text.length();
    }

    int clearText() {
        int before = text.length();
        text = "";
        return before;
    }

    /** The end of the longest beginning of the text with which a right text could begin. */
    int fault() {
        if (WHOLE.matcher(text).matches()) {
            return -5;
        }
        for (int i = 1; i <= text.length(); i++) {
            Matcher m = WHOLE.matcher(text.substring(0, i));
            if (!m.matches() && !m.hitEnd()) {
                return i - 1;
            }
        }
        return text.length();
    }

    int undo() {
        if (history.isEmpty()) {
            return -5;
        }
        state = history.remove(history.size() - 1);
        return history.size();
    }

    int keep() {
        snapshot = state.copy();
        return state.bars.size();
    }

    int restore() {
        return snapshot == null ? -5 : act(snapshot.copy(), snapshot.bars.size());
    }

    int barOf(int bar, int what) {
        Bar b = state.bars.get(bar);
        if (b == null) {
            return -1;
        }
        switch (what) {
            case 0: return b.lane;
            case 1: return b.first;
            case 2: return b.days;
            case 3: return b.end();
            case 4: return state.width(0, b.first);
            case 5: return state.width(b.first, b.end());
            case 6: return state.slack(bar);
            case 7: return (int) state.arrows.values().stream().filter(a -> a.from == bar).count();
            case 8: return (int) state.arrows.values().stream().filter(a -> a.to == bar).count();
            case 9: return state.stripOf(b.first);
            case 10: return (int) state.strips().stream().filter(s ->
                    s.get(0) < b.end() && s.get(s.size() - 1) >= b.first).count();
            case 11: return nextInLane(b);
            default: return -2;
        }
    }

    private int nextInLane(Bar b) {
        for (int d = b.end(); d < 200; d++) {
            if (state.occupant(b.lane, d) >= 0) {
                return state.occupant(b.lane, d);
            }
        }
        return -5;
    }

    int arrowOf(int arrow, int what) {
        Arrow a = state.arrows.get(arrow);
        if (a == null) {
            return -1;
        }
        Bar f = state.bars.get(a.from);
        Bar t = state.bars.get(a.to);
        int bend = state.bend(a);
        switch (what) {
            case 0: return a.from;
            case 1: return a.to;
            case 2: return bend;
            case 3: return state.late(a) ? f.end() - t.first : 0;
            case 4: return state.free(a).size();
            case 5: return bend == -5 ? -5
                    : state.width(f.end(), bend) + state.width(bend, t.first);
            case 6: return state.points(arrow);
            case 7: return bend == -5 ? -5 : state.stripOf(t.first) - state.stripOf(f.end() - 1);
            default: return -2;
        }
    }

    int reason(int arrow, int bend) {
        Arrow a = state.arrows.get(arrow);
        return a == null ? -1 : state.reason(a, bend);
    }

    int cell(int lane, int day) {
        return lane < 0 || lane > 11 || day < 0 || day > 199 ? -1 : state.occupant(lane, day);
    }

    int strip(int strip, int what) {
        if (strip < 0 || what < 0 || what > 4) {
            return -2;
        }
        List<List<Integer>> strips = state.strips();
        if (strip >= strips.size()) {
            return -5;
        }
        List<Integer> days = strips.get(strip);
        int shown = 0;
        int begun = 0;
        for (Bar b : state.bars.values()) {
            boolean shows = false;
            for (int d = b.first; d < b.end(); d++) {
                shows = shows || days.contains(d);
            }
            shown += shows ? 1 : 0;
            begun += days.contains(b.first) ? 1 : 0;
        }
        int width = days.stream().mapToInt(d -> state.widths[d]).sum();
        int[] answers = {days.get(0), days.size(), width, shown, begun};
        return answers[what];
    }

    int count(int what) {
        switch (what) {
            case 0: return state.bars.size();
            case 1: return state.arrows.size();
            case 2: return state.lanesWithBars();
            case 3: return state.undrawn();
            case 4: return (int) state.arrows.values().stream().filter(state::late).count();
            case 5: return state.points(-1);
            case 6: return state.greatestEnd();
            case 7: return state.strips().size();
            case 8: return state.width(0, state.greatestEnd());
            case 9: return (int) state.bars.keySet().stream().filter(b -> state.slack(b) == 0).count();
            case 10: return state.barsEver;
            case 11: return state.arrowsEver;
            case 12: return state.slipped;
            case 13: return history.size();
            case 14: return text.length();
            case 15: return state.settings[0];
            case 16: return state.settings[1];
            default: return -2;
        }
    }

    int latest(int bar) {
        return state.bars.containsKey(bar) ? state.bars.get(bar).first + state.slack(bar) : -1;
    }

    int longest() {
        Map<Integer, Integer> known = new TreeMap<>();
        int most = 0;
        for (int bar : state.bars.keySet()) {
            most = Math.max(most, state.longestFrom(bar, known));
        }
        return most;
    }

    double share() {
        if (state.bars.isEmpty()) {
            return 0.0;
        }
        int sum = 0;
        for (Bar b : state.bars.values()) {
            sum += state.width(b.first, b.end());
        }
        return (double) sum / (double) (state.width(0, state.greatestEnd()) * state.lanesWithBars());
    }

    int ifSlipped(int bar, int days) {
        if (!state.bars.containsKey(bar)) {
            return -1;
        }
        return days < 1 || days > 30 ? -2 : state.greatestEnd(state.slip(bar, days));
    }

    int bestSwap(int what) {
        if (what < 0 || what > 3) {
            return -2;
        }
        int[] best = {-1, -1, state.undrawn(), state.points(-1)};
        for (int lane = 0; lane < 12; lane++) {
            for (int other = lane + 1; other < 12; other++) {
                State next = state.swapped(lane, other);
                int undrawn = next.undrawn();
                int points = undrawn > best[2] ? 0 : next.points(-1);
                if (undrawn < best[2] || undrawn == best[2] && points < best[3]) {
                    best = new int[] {lane, other, undrawn, points};
                }
            }
        }
        return best[0] < 0 ? -5 : best[what];
    }

    int bestLane(int bar) {
        Bar b = state.bars.get(bar);
        if (b == null) {
            return -1;
        }
        int best = -1;
        int fewest = Integer.MAX_VALUE;
        for (int lane = 0; lane < 12; lane++) {
            if (state.room(lane, b.first, b.days, bar)) {
                State next = state.copy();
                next.put(bar, new Bar(lane, b.first, b.days));
                if (next.undrawn() < fewest) {
                    fewest = next.undrawn();
                    best = lane;
                }
            }
        }
        return best;
    }
}
