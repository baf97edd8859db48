import java.util.Arrays;

/** Strips with bars in lanes and arrows between them that must not pass through a bar. */
public final class BarStrips {
    public static final int UNKNOWN = -1;
    public static final int BAD_VALUE = -2;
    public static final int FULL = -3;
    public static final int NOT_POSSIBLE = -4;
    public static final int NONE = -5;

    private static final int LANES = 12;
    private static final int DAYS = 200;
    private static final int LONGEST_BAR = 30;
    private static final int BARS = 30;
    private static final int BARS_EVER = 90;
    private static final int ARROWS = 40;
    private static final int ARROWS_EVER = 200;
    private static final int WIDEST_DAY = 9;
    private static final int STATES = 4;
    private static final int TEXT_ROOM = 60;
    private static final int FAULT_BASE = -100;

    private static final int CHOICE = 0;
    private static final int STRIP_WIDTH = 1;

    private final Chart chart = new Chart();
    // Acts are tried on a copy, so that one which ends in an error has changed nothing.
    private final Chart draft = new Chart();
    private final Chart snapshot = new Chart();
    private boolean snapshotTaken;
    private final History history = new History();
    private final PartsText text = new PartsText();
    private final Pushes pushes = new Pushes();
    private final Drawing drawing = new Drawing();
    private final Cutting cutting = new Cutting();
    private final SwapSearch swapSearch = new SwapSearch();

    public BarStrips() {
    }

    // ---- bars, arrows

    public int bar(int lane, int day, int days) {
        draft.copyFrom(chart);
        return settle(draft.addBar(lane, day, days));
    }

    public int arrow(int from, int to) {
        draft.copyFrom(chart);
        return settle(draft.addArrow(from, to));
    }

    public int addAll() {
        int fault = text.readParts();
        if (fault != NONE) {
            return FAULT_BASE - fault;
        }
        draft.copyFrom(chart);
        for (int part = 0; part < text.parts; part++) {
            int answer = addPart(part);
            if (answer < 0) {
                return answer;
            }
        }
        return settle(text.parts);
    }

    public int takeBar(int bar) {
        int slot = chart.slotOf(bar);
        if (slot < 0) {
            return UNKNOWN;
        }
        draft.copyFrom(chart);
        return settle(draft.dropBar(slot));
    }

    public int takeArrow(int arrow) {
        int slot = chart.arrowSlotOf(arrow);
        if (slot < 0) {
            return UNKNOWN;
        }
        draft.copyFrom(chart);
        int target = draft.number[draft.to[slot]];
        draft.dropArrow(slot);
        return settle(target);
    }

    public int move(int bar, int lane, int day) {
        int slot = chart.slotOf(bar);
        if (slot < 0 || !isLane(lane)) {
            return UNKNOWN;
        }
        if (!isDay(day) || day + chart.days[slot] > DAYS) {
            return BAD_VALUE;
        }
        if (chart.lane[slot] == lane && chart.first[slot] == day) {
            return NONE;
        }
        if (!chart.hasRoom(lane, day, chart.days[slot], slot)) {
            return NOT_POSSIBLE;
        }
        draft.copyFrom(chart);
        draft.lane[slot] = lane;
        draft.first[slot] = day;
        drawing.draw(draft);
        return settle(drawing.undrawn);
    }

    public int swap(int lane, int other) {
        if (!isLane(lane) || !isLane(other)) {
            return UNKNOWN;
        }
        if (lane == other || !chart.hasBars(lane) && !chart.hasBars(other)) {
            return NONE;
        }
        draft.copyFrom(chart);
        draft.exchangeLanes(lane, other);
        drawing.draw(draft);
        return settle(drawing.undrawn);
    }

    public int pack() {
        draft.copyFrom(chart);
        pushes.sortByFirstDays(draft);
        return settle(draft.packLanes(pushes.order));
    }

    public int slip(int bar, int days) {
        int slot = chart.slotOf(bar);
        if (slot < 0) {
            return UNKNOWN;
        }
        if (days < 1 || days > LONGEST_BAR) {
            return BAD_VALUE;
        }
        pushes.read(chart);
        if (pushes.slipFrom(chart, slot, days) > DAYS) {
            return NOT_POSSIBLE;
        }
        draft.copyFrom(chart);
        return settle(draft.slipTo(pushes.day));
    }

    public int pull(int bar) {
        int slot = chart.slotOf(bar);
        if (slot < 0) {
            return UNKNOWN;
        }
        pushes.read(chart);
        int day = pushes.earliest(chart, slot);
        int earlier = chart.first[slot] - day;
        if (earlier == 0) {
            return NONE;
        }
        draft.copyFrom(chart);
        draft.first[slot] = day;
        return settle(earlier);
    }

    // ---- widths, settings

    public int width(int from, int to, int width) {
        if (!isDay(from) || !isDay(to) || to < from || width < 1 || width > WIDEST_DAY) {
            return BAD_VALUE;
        }
        draft.copyFrom(chart);
        int changed = draft.setWidths(from, to, width);
        return settle(changed == 0 ? NONE : changed);
    }

    public int set(int which, int value) {
        if (!isSetting(which, value)) {
            return BAD_VALUE;
        }
        int previous = chart.settings[which];
        if (previous == value) {
            return NONE;
        }
        draft.copyFrom(chart);
        draft.settings[which] = value;
        return settle(previous);
    }

    // ---- texts

    public int type(char character) {
        return text.append(character);
    }

    public int clearText() {
        int before = text.length;
        text.length = 0;
        return before;
    }

    public int fault() {
        return text.readParts();
    }

    // ---- history

    public int undo() {
        return history.takeLatest(chart);
    }

    public int keep() {
        snapshot.copyFrom(chart);
        snapshotTaken = true;
        return chart.bars;
    }

    public int restore() {
        if (!snapshotTaken) {
            return NONE;
        }
        draft.copyFrom(snapshot);
        return settle(draft.bars);
    }

    // ---- what is told

    public int barOf(int bar, int what) {
        int slot = chart.slotOf(bar);
        if (slot < 0) {
            return UNKNOWN;
        }
        switch (what) {
            case 0: return chart.lane[slot];
            case 1: return chart.first[slot];
            case 2: return chart.days[slot];
            case 3: return chart.endOf(slot);
            case 4: return chart.place(chart.first[slot]);
            case 5: return chart.widthBetween(chart.first[slot], chart.endOf(slot));
            case 6: return latestOf(slot) - chart.first[slot];
            case 7: return chart.arrowsFrom(slot);
            case 8: return chart.arrowsTo(slot);
            case 9: return stripOf(chart.first[slot]);
            case 10: return stripOf(chart.endOf(slot) - 1) - stripOf(chart.first[slot]) + 1;
            case 11: return chart.nextInLane(slot);
            default: return BAD_VALUE;
        }
    }

    public int arrowOf(int arrow, int what) {
        int slot = chart.arrowSlotOf(arrow);
        if (slot < 0) {
            return UNKNOWN;
        }
        drawing.draw(chart);
        boolean drawn = drawing.bend[slot] != NONE;
        int end = chart.endOf(chart.from[slot]);
        int first = chart.first[chart.to[slot]];
        switch (what) {
            case 0: return chart.number[chart.from[slot]];
            case 1: return chart.number[chart.to[slot]];
            case 2: return drawing.bend[slot];
            case 3: return chart.lateBy(slot);
            case 4: return drawing.freeBends(chart, slot);
            case 5: return drawn ? chart.widthBetween(end, first) : NONE;
            case 6: return drawing.pointsOf(chart, slot);
            case 7: return drawn ? stripOf(first) - stripOf(end - 1) : NONE;
            default: return BAD_VALUE;
        }
    }

    public int reason(int arrow, int bend) {
        int slot = chart.arrowSlotOf(arrow);
        return slot < 0 ? UNKNOWN : drawing.whyShut(chart, slot, bend);
    }

    public int cell(int lane, int day) {
        return isLane(lane) && isDay(day) ? chart.barAt(lane, day) : UNKNOWN;
    }

    public int strip(int strip, int what) {
        if (strip < 0 || what < 0 || what > 4) {
            return BAD_VALUE;
        }
        cutting.cut(chart);
        if (strip >= cutting.strips) {
            return NONE;
        }
        int start = cutting.start[strip];
        int end = cutting.start[strip + 1];
        switch (what) {
            case 0: return start;
            case 1: return end - start;
            case 2: return chart.widthBetween(start, end);
            case 3: return chart.barsShown(start, end);
            default: return chart.barsBegun(start, end);
        }
    }

    public int count(int what) {
        switch (what) {
            case 0: return chart.bars;
            case 1: return chart.arrows;
            case 2: return chart.lanesWithBars();
            case 3: return undrawnArrows();
            case 4: return chart.lateArrows();
            case 5: return crossingPoints();
            case 6: return chart.greatestEnd();
            case 7: return stripsInAll();
            case 8: return chart.place(chart.greatestEnd());
            case 9: return criticalBars();
            case 10: return chart.barsEver;
            case 11: return chart.arrowsEver;
            case 12: return chart.slipped;
            case 13: return history.size;
            case 14: return text.length;
            case 15: return chart.settings[CHOICE];
            case 16: return chart.settings[STRIP_WIDTH];
            default: return BAD_VALUE;
        }
    }

    public int latest(int bar) {
        int slot = chart.slotOf(bar);
        return slot < 0 ? UNKNOWN : latestOf(slot);
    }

    public int longest() {
        pushes.read(chart);
        return pushes.longestRow(chart);
    }

    public double share() {
        int room = chart.place(chart.greatestEnd()) * chart.lanesWithBars();
        if (room == 0) {
            return 0.0;
        }
        return (double) chart.widthOfBars() / (double) room;
    }

    // ---- what would be

    public int ifSlipped(int bar, int days) {
        int slot = chart.slotOf(bar);
        if (slot < 0) {
            return UNKNOWN;
        }
        if (days < 1 || days > LONGEST_BAR) {
            return BAD_VALUE;
        }
        pushes.read(chart);
        return pushes.slipFrom(chart, slot, days);
    }

    public int bestSwap(int what) {
        if (what < 0 || what > 3) {
            return BAD_VALUE;
        }
        draft.copyFrom(chart);
        if (!swapSearch.find(draft, drawing)) {
            return NONE;
        }
        switch (what) {
            case 0: return swapSearch.lane;
            case 1: return swapSearch.other;
            case 2: return swapSearch.undrawn;
            default: return swapSearch.points;
        }
    }

    public int bestLane(int bar) {
        int slot = chart.slotOf(bar);
        if (slot < 0) {
            return UNKNOWN;
        }
        draft.copyFrom(chart);
        int best = chart.lane[slot];
        int fewest = ARROWS + 1;
        for (int lane = 0; lane < LANES; lane++) {
            if (chart.hasRoom(lane, chart.first[slot], chart.days[slot], slot)) {
                draft.lane[slot] = lane;
                drawing.draw(draft);
                if (drawing.undrawn < fewest) {
                    fewest = drawing.undrawn;
                    best = lane;
                }
            }
        }
        return best;
    }

    // An act ends here: no answer below 0 is one of an act that was done.
    private int settle(int answer) {
        if (answer >= 0) {
            history.record(chart);
            chart.copyFrom(draft);
        }
        return answer;
    }

    private int addPart(int part) {
        if (text.isArrow(part)) {
            return draft.addArrow(text.head[part], text.second[part]);
        }
        return draft.addBar(text.head[part], text.second[part], text.days[part]);
    }

    private int latestOf(int slot) {
        pushes.read(chart);
        pushes.findLatest(chart);
        return pushes.day[slot];
    }

    private int criticalBars() {
        pushes.read(chart);
        pushes.findLatest(chart);
        int critical = 0;
        for (int slot = 0; slot < chart.bars; slot++) {
            if (pushes.day[slot] == chart.first[slot]) {
                critical++;
            }
        }
        return critical;
    }

    private int undrawnArrows() {
        drawing.draw(chart);
        return drawing.undrawn;
    }

    private int crossingPoints() {
        drawing.draw(chart);
        return drawing.pointsInAll(chart);
    }

    private int stripOf(int day) {
        cutting.cut(chart);
        return cutting.stripOf(day);
    }

    private int stripsInAll() {
        cutting.cut(chart);
        return cutting.strips;
    }

    private static boolean isLane(int lane) {
        return lane >= 0 && lane < LANES;
    }

    private static boolean isDay(int day) {
        return day >= 0 && day < DAYS;
    }

    private static boolean isSetting(int which, int value) {
        switch (which) {
            case CHOICE: return value >= 0 && value <= 2;
            case STRIP_WIDTH: return value >= 10 && value <= 999;
            default: return false;
        }
    }

    /**
     * A state. The bars and arrows that are there stand in slots without gaps, by their numbers;
     * arrows name the slots of their bars.
     */
    private static final class Chart {
        int bars;
        int barsEver;
        final int[] number = new int[BARS];
        final int[] lane = new int[BARS];
        final int[] first = new int[BARS];
        final int[] days = new int[BARS];
        int arrows;
        int arrowsEver;
        final int[] arrowNumber = new int[ARROWS];
        final int[] from = new int[ARROWS];
        final int[] to = new int[ARROWS];
        final int[] widths = new int[DAYS];
        final int[] settings = new int[2];
        int slipped;

        Chart() {
            Arrays.fill(widths, 2);
            settings[CHOICE] = 0;
            settings[STRIP_WIDTH] = 60;
        }

        void copyFrom(Chart other) {
            bars = other.bars;
            barsEver = other.barsEver;
            System.arraycopy(other.number, 0, number, 0, BARS);
            System.arraycopy(other.lane, 0, lane, 0, BARS);
            System.arraycopy(other.first, 0, first, 0, BARS);
            System.arraycopy(other.days, 0, days, 0, BARS);
            arrows = other.arrows;
            arrowsEver = other.arrowsEver;
            System.arraycopy(other.arrowNumber, 0, arrowNumber, 0, ARROWS);
            System.arraycopy(other.from, 0, from, 0, ARROWS);
            System.arraycopy(other.to, 0, to, 0, ARROWS);
            System.arraycopy(other.widths, 0, widths, 0, DAYS);
            System.arraycopy(other.settings, 0, settings, 0, 2);
            slipped = other.slipped;
        }

        int slotOf(int bar) {
            for (int slot = 0; slot < bars; slot++) {
                if (number[slot] == bar) {
                    return slot;
                }
            }
            return -1;
        }

        int arrowSlotOf(int arrow) {
            for (int slot = 0; slot < arrows; slot++) {
                if (arrowNumber[slot] == arrow) {
                    return slot;
                }
            }
            return -1;
        }

        int addBar(int newLane, int day, int newDays) {
            if (!isLane(newLane)) {
                return UNKNOWN;
            }
            if (!isDay(day) || newDays < 1 || newDays > LONGEST_BAR || day + newDays > DAYS) {
                return BAD_VALUE;
            }
            if (!hasRoom(newLane, day, newDays, -1)) {
                return NOT_POSSIBLE;
            }
            if (bars >= BARS || barsEver >= BARS_EVER) {
                return FULL;
            }
            number[bars] = barsEver;
            lane[bars] = newLane;
            first[bars] = day;
            days[bars] = newDays;
            bars++;
            barsEver++;
            return barsEver - 1;
        }

        int addArrow(int fromBar, int toBar) {
            int start = slotOf(fromBar);
            int goal = slotOf(toBar);
            if (start < 0 || goal < 0) {
                return UNKNOWN;
            }
            if (start == goal || hasArrow(start, goal) || leadsOn(goal, start)) {
                return NOT_POSSIBLE;
            }
            if (arrows >= ARROWS || arrowsEver >= ARROWS_EVER) {
                return FULL;
            }
            arrowNumber[arrows] = arrowsEver;
            from[arrows] = start;
            to[arrows] = goal;
            arrows++;
            arrowsEver++;
            return arrowsEver - 1;
        }

        boolean hasArrow(int start, int goal) {
            for (int arrow = 0; arrow < arrows; arrow++) {
                if (from[arrow] == start && to[arrow] == goal) {
                    return true;
                }
            }
            return false;
        }

        /** Whether arrows lead from one bar to the other one, directly or by way of others. */
        boolean leadsOn(int start, int goal) {
            int reached = 1 << start;
            for (int pass = 0; pass < bars; pass++) {
                int before = reached;
                for (int arrow = 0; arrow < arrows; arrow++) {
                    if ((reached >> from[arrow] & 1) == 1) {
                        reached |= 1 << to[arrow];
                    }
                }
                if (reached == before) {
                    break;
                }
            }
            return (reached >> goal & 1) == 1;
        }

        /** Takes a bar away with its arrows, and tells how many these were. */
        int dropBar(int slot) {
            int gone = 0;
            for (int arrow = arrows - 1; arrow >= 0; arrow--) {
                if (from[arrow] == slot || to[arrow] == slot) {
                    dropArrow(arrow);
                    gone++;
                }
            }
            bars--;
            for (int next = slot; next < bars; next++) {
                number[next] = number[next + 1];
                lane[next] = lane[next + 1];
                first[next] = first[next + 1];
                days[next] = days[next + 1];
            }
            for (int arrow = 0; arrow < arrows; arrow++) {
                from[arrow] -= from[arrow] > slot ? 1 : 0;
                to[arrow] -= to[arrow] > slot ? 1 : 0;
            }
            return gone;
        }

        void dropArrow(int slot) {
            arrows--;
            for (int next = slot; next < arrows; next++) {
                arrowNumber[next] = arrowNumber[next + 1];
                from[next] = from[next + 1];
                to[next] = to[next + 1];
            }
        }

        /** Whether no bar of the lane, but perhaps the one of the slot self, has one of the days. */
        boolean hasRoom(int wanted, int day, int length, int self) {
            for (int slot = 0; slot < bars; slot++) {
                if (slot != self && lane[slot] == wanted && sharesDays(slot, day, day + length)) {
                    return false;
                }
            }
            return true;
        }

        boolean sharesDays(int slot, int start, int end) {
            return first[slot] < end && start < endOf(slot);
        }

        void exchangeLanes(int one, int other) {
            for (int slot = 0; slot < bars; slot++) {
                if (lane[slot] == one) {
                    lane[slot] = other;
                } else if (lane[slot] == other) {
                    lane[slot] = one;
                }
            }
        }

        int packLanes(int[] order) {
            boolean changed = false;
            for (int turn = 0; turn < bars; turn++) {
                int slot = order[turn];
                int lowest = lowestLane(order, turn);
                if (lowest >= LANES) {
                    return NOT_POSSIBLE;
                }
                if (lane[slot] != lowest) {
                    lane[slot] = lowest;
                    changed = true;
                }
            }
            return changed ? lanesWithBars() : NONE;
        }

        int lowestLane(int[] order, int turn) {
            int lowest = 0;
            while (lowest < LANES && isTaken(order, turn, lowest)) {
                lowest++;
            }
            return lowest;
        }

        boolean isTaken(int[] order, int turn, int wanted) {
            int self = order[turn];
            for (int earlier = 0; earlier < turn; earlier++) {
                int slot = order[earlier];
                if (lane[slot] == wanted && sharesDays(slot, first[self], endOf(self))) {
                    return true;
                }
            }
            return false;
        }

        /** Gives the bars the first days that they have slipped to, and tells how many differ. */
        int slipTo(int[] day) {
            int moved = 0;
            for (int slot = 0; slot < bars; slot++) {
                if (day[slot] != first[slot]) {
                    slipped += day[slot] - first[slot];
                    first[slot] = day[slot];
                    moved++;
                }
            }
            return moved;
        }

        int setWidths(int start, int last, int value) {
            int changed = 0;
            for (int day = start; day <= last; day++) {
                if (widths[day] != value) {
                    widths[day] = value;
                    changed++;
                }
            }
            return changed;
        }

        int endOf(int slot) {
            return first[slot] + days[slot];
        }

        int greatestEnd() {
            int greatest = 0;
            for (int slot = 0; slot < bars; slot++) {
                greatest = Math.max(greatest, endOf(slot));
            }
            return greatest;
        }

        int lateBy(int arrow) {
            return Math.max(0, endOf(from[arrow]) - first[to[arrow]]);
        }

        int lateArrows() {
            int late = 0;
            for (int arrow = 0; arrow < arrows; arrow++) {
                late += lateBy(arrow) > 0 ? 1 : 0;
            }
            return late;
        }

        int arrowsFrom(int slot) {
            int found = 0;
            for (int arrow = 0; arrow < arrows; arrow++) {
                found += from[arrow] == slot ? 1 : 0;
            }
            return found;
        }

        int arrowsTo(int slot) {
            int found = 0;
            for (int arrow = 0; arrow < arrows; arrow++) {
                found += to[arrow] == slot ? 1 : 0;
            }
            return found;
        }

        boolean hasBars(int wanted) {
            for (int slot = 0; slot < bars; slot++) {
                if (lane[slot] == wanted) {
                    return true;
                }
            }
            return false;
        }

        int lanesWithBars() {
            int found = 0;
            for (int wanted = 0; wanted < LANES; wanted++) {
                found += hasBars(wanted) ? 1 : 0;
            }
            return found;
        }

        int barAt(int wanted, int day) {
            for (int slot = 0; slot < bars; slot++) {
                if (lane[slot] == wanted && sharesDays(slot, day, day + 1)) {
                    return number[slot];
                }
            }
            return NONE;
        }

        /** The number of the bar that is next behind the one of the slot in its lane, or NONE. */
        int nextInLane(int slot) {
            int next = -1;
            for (int other = 0; other < bars; other++) {
                boolean behind = lane[other] == lane[slot] && first[other] > first[slot];
                if (behind && (next < 0 || first[other] < first[next])) {
                    next = other;
                }
            }
            return next < 0 ? NONE : number[next];
        }

        int barsShown(int start, int end) {
            int shown = 0;
            for (int slot = 0; slot < bars; slot++) {
                shown += sharesDays(slot, start, end) ? 1 : 0;
            }
            return shown;
        }

        int barsBegun(int start, int end) {
            int begun = 0;
            for (int slot = 0; slot < bars; slot++) {
                begun += first[slot] >= start && first[slot] < end ? 1 : 0;
            }
            return begun;
        }

        int place(int day) {
            return widthBetween(0, day);
        }

        int widthBetween(int start, int end) {
            int sum = 0;
            for (int day = start; day < end && day < DAYS; day++) {
                sum += widths[day];
            }
            return sum;
        }

        int widthOfBars() {
            int sum = 0;
            for (int slot = 0; slot < bars; slot++) {
                sum += widthBetween(first[slot], endOf(slot));
            }
            return sum;
        }
    }

    /** Who pushes whom in a chart, and what follows from that. */
    private static final class Pushes {
        /** The slots by first days, of several by numbers: nobody pushes one ahead of him here. */
        final int[] order = new int[BARS];
        /** For each slot a set of the slots that it pushes, a bit for each. */
        final int[] pushed = new int[BARS];
        /** For each slot what was asked last. */
        final int[] day = new int[BARS];

        void read(Chart chart) {
            sortByFirstDays(chart);
            for (int slot = 0; slot < chart.bars; slot++) {
                pushed[slot] = behindInLane(chart, slot);
            }
            for (int arrow = 0; arrow < chart.arrows; arrow++) {
                if (chart.lateBy(arrow) == 0) {
                    pushed[chart.from[arrow]] |= 1 << chart.to[arrow];
                }
            }
        }

        void sortByFirstDays(Chart chart) {
            for (int slot = 0; slot < chart.bars; slot++) {
                int turn = slot;
                while (turn > 0 && chart.first[order[turn - 1]] > chart.first[slot]) {
                    order[turn] = order[turn - 1];
                    turn--;
                }
                order[turn] = slot;
            }
        }

        int behindInLane(Chart chart, int slot) {
            int behind = 0;
            for (int other = 0; other < chart.bars; other++) {
                if (chart.lane[other] == chart.lane[slot] && chart.first[other] > chart.first[slot]) {
                    behind |= 1 << other;
                }
            }
            return behind;
        }

        boolean isPushed(int slot, int by) {
            return (pushed[by] >> slot & 1) == 1;
        }

        /** Finds the first days if the bar slipped, and tells the greatest end there would be. */
        int slipFrom(Chart chart, int slipping, int days) {
            int greatest = 0;
            for (int turn = 0; turn < chart.bars; turn++) {
                int slot = order[turn];
                day[slot] = chart.first[slot] + (slot == slipping ? days : 0);
                for (int earlier = 0; earlier < turn; earlier++) {
                    int other = order[earlier];
                    if (isPushed(slot, other)) {
                        day[slot] = Math.max(day[slot], day[other] + chart.days[other]);
                    }
                }
                greatest = Math.max(greatest, day[slot] + chart.days[slot]);
            }
            return greatest;
        }

        void findLatest(Chart chart) {
            int greatest = chart.greatestEnd();
            for (int turn = chart.bars - 1; turn >= 0; turn--) {
                int slot = order[turn];
                int limit = greatest;
                for (int later = turn + 1; later < chart.bars; later++) {
                    int other = order[later];
                    if (isPushed(other, slot)) {
                        limit = Math.min(limit, day[other]);
                    }
                }
                day[slot] = limit - chart.days[slot];
            }
        }

        int earliest(Chart chart, int slot) {
            int earliest = 0;
            for (int other = 0; other < chart.bars; other++) {
                if (isPushed(slot, other)) {
                    earliest = Math.max(earliest, chart.endOf(other));
                }
            }
            return earliest;
        }

        int longestRow(Chart chart) {
            int longest = 0;
            for (int turn = 0; turn < chart.bars; turn++) {
                int slot = order[turn];
                int ahead = 0;
                for (int earlier = 0; earlier < turn; earlier++) {
                    int other = order[earlier];
                    if (isPushed(slot, other)) {
                        ahead = Math.max(ahead, day[other]);
                    }
                }
                day[slot] = ahead + chart.days[slot];
                longest = Math.max(longest, day[slot]);
            }
            return longest;
        }
    }

    /** The bends of a chart's arrows, and the points at which these cross, as it was drawn last. */
    private static final class Drawing {
        /** The bend of each arrow's slot, or NONE. */
        final int[] bend = new int[ARROWS];
        int undrawn;
        /** For each bend a set of the lanes, a bit for each, in which one bar has both its days. */
        final int[] barred = new int[DAYS];

        void readBars(Chart chart) {
            Arrays.fill(barred, 0);
            for (int slot = 0; slot < chart.bars; slot++) {
                int end = Math.min(DAYS, chart.endOf(slot));
                for (int c = chart.first[slot] + 1; c < end; c++) {
                    barred[c] |= 1 << chart.lane[slot];
                }
            }
        }

        void draw(Chart chart) {
            readBars(chart);
            undrawn = 0;
            for (int arrow = 0; arrow < chart.arrows; arrow++) {
                bend[arrow] = choose(chart, arrow);
                undrawn += bend[arrow] == NONE ? 1 : 0;
            }
        }

        int choose(Chart chart, int arrow) {
            int choice = chart.settings[CHOICE];
            int middle = chart.endOf(chart.from[arrow]) + chart.first[chart.to[arrow]];
            int between = lanesBetween(chart, arrow);
            int high = highest(chart, arrow);
            int best = NONE;
            for (int c = lowest(chart, arrow); c <= high; c++) {
                if ((barred[c] & between) != 0) {
                    continue;
                }
                if (choice == 0) {
                    return c;
                }
                if (best == NONE || choice == 1
                        || Math.abs(2 * c - middle) < Math.abs(2 * best - middle)) {
                    best = c;
                }
            }
            return best;
        }

        int freeBends(Chart chart, int arrow) {
            int free = 0;
            int between = lanesBetween(chart, arrow);
            int high = highest(chart, arrow);
            for (int c = lowest(chart, arrow); c <= high; c++) {
                free += (barred[c] & between) == 0 ? 1 : 0;
            }
            return free;
        }

        int whyShut(Chart chart, int arrow, int c) {
            if (c < chart.endOf(chart.from[arrow]) || c > chart.first[chart.to[arrow]]) {
                return 1;
            }
            if (c > highest(chart, arrow)) {
                return 2;
            }
            if (c < lowest(chart, arrow)) {
                return 3;
            }
            readBars(chart);
            return (barred[c] & lanesBetween(chart, arrow)) == 0 ? 0 : 4;
        }

        /** The last bend ahead of which no bar lies in the lane from which the arrow leads. */
        int highest(Chart chart, int arrow) {
            int from = chart.from[arrow];
            int high = chart.first[chart.to[arrow]];
            for (int slot = 0; slot < chart.bars; slot++) {
                if (chart.lane[slot] == chart.lane[from] && chart.first[slot] > chart.first[from]) {
                    high = Math.min(high, chart.first[slot]);
                }
            }
            return high;
        }

        /** The first bend behind which no bar lies in the lane to which the arrow leads. */
        int lowest(Chart chart, int arrow) {
            int to = chart.to[arrow];
            int low = chart.endOf(chart.from[arrow]);
            for (int slot = 0; slot < chart.bars; slot++) {
                if (chart.lane[slot] == chart.lane[to] && chart.first[slot] < chart.first[to]) {
                    low = Math.max(low, chart.endOf(slot));
                }
            }
            return low;
        }

        /** The set of the lanes, a bit for each, that are strictly between the arrow's two. */
        int lanesBetween(Chart chart, int arrow) {
            int one = chart.lane[chart.from[arrow]];
            int other = chart.lane[chart.to[arrow]];
            int upToUpper = (2 << Math.min(one, other)) - 1;
            int aheadOfLower = (1 << Math.max(one, other)) - 1;
            return aheadOfLower & ~upToUpper;
        }

        int pointsInAll(Chart chart) {
            int points = 0;
            for (int arrow = 0; arrow < chart.arrows; arrow++) {
                for (int other = 0; other < chart.arrows; other++) {
                    points += crosses(chart, arrow, other) ? 1 : 0;
                }
            }
            return points;
        }

        int pointsOf(Chart chart, int arrow) {
            int points = 0;
            for (int other = 0; other < chart.arrows; other++) {
                points += crosses(chart, arrow, other) ? 1 : 0;
                points += crosses(chart, other, arrow) ? 1 : 0;
            }
            return points;
        }

        /**
         * Whether the one arrow passes, by its bend, through a lane along which the other one goes.
         * No arrow crosses itself so, as its own lanes are not between its lanes; and only one of
         * the other one's two lanes can be crossed, as it is in one of them on one day at a time.
         */
        boolean crosses(Chart chart, int arrow, int other) {
            if (bend[arrow] == NONE || bend[other] == NONE) {
                return false;
            }
            return passesThrough(chart, arrow, other, chart.lane[chart.from[other]])
                    || passesThrough(chart, arrow, other, chart.lane[chart.to[other]]);
        }

        boolean passesThrough(Chart chart, int arrow, int other, int lane) {
            return (lanesBetween(chart, arrow) >> lane & 1) == 1
                    && goesAlong(chart, other, lane, bend[arrow] - 1)
                    && goesAlong(chart, other, lane, bend[arrow]);
        }

        boolean goesAlong(Chart chart, int arrow, int lane, int day) {
            int from = chart.from[arrow];
            int to = chart.to[arrow];
            if (day < bend[arrow]) {
                return lane == chart.lane[from] && day >= chart.endOf(from);
            }
            return lane == chart.lane[to] && day < chart.first[to];
        }
    }

    /** The strips that a chart is cut into. */
    private static final class Cutting {
        int strips;
        /** The first day of each strip, and behind the last one the day behind the chart. */
        final int[] start = new int[DAYS + 1];

        void cut(Chart chart) {
            int end = Math.min(DAYS, chart.greatestEnd());
            int room = 0;
            strips = 0;
            for (int day = 0; day < end; day++) {
                if (day == 0 || chart.widths[day] > room) {
                    start[strips] = day;
                    strips++;
                    room = chart.settings[STRIP_WIDTH];
                }
                room -= chart.widths[day];
            }
            start[strips] = end;
        }

        int stripOf(int day) {
            int strip = 0;
            while (strip < strips - 1 && start[strip + 1] <= day) {
                strip++;
            }
            return strip;
        }
    }

    /** The search for the best swap of two lanes. */
    private static final class SwapSearch {
        int lane;
        int other;
        int undrawn;
        int points;

        /** Tries each swap on the chart, takes it back, and tells whether one is better than none. */
        boolean find(Chart chart, Drawing drawing) {
            boolean found = false;
            drawing.draw(chart);
            undrawn = drawing.undrawn;
            points = drawing.pointsInAll(chart);
            for (int one = 0; one < LANES; one++) {
                for (int two = one + 1; two < LANES; two++) {
                    if (!chart.hasBars(one) && !chart.hasBars(two)) {
                        continue;
                    }
                    chart.exchangeLanes(one, two);
                    if (isBetter(chart, drawing)) {
                        lane = one;
                        other = two;
                        found = true;
                    }
                    chart.exchangeLanes(one, two);
                }
            }
            return found;
        }

        boolean isBetter(Chart chart, Drawing drawing) {
            drawing.draw(chart);
            if (drawing.undrawn > undrawn) {
                return false;
            }
            int crossing = drawing.pointsInAll(chart);
            if (drawing.undrawn == undrawn && crossing >= points) {
                return false;
            }
            undrawn = drawing.undrawn;
            points = crossing;
            return true;
        }
    }

    /** The latest states, the oldest of which makes room for a new one. */
    private static final class History {
        final Chart[] states = new Chart[STATES];
        int oldest;
        int size;

        History() {
            for (int i = 0; i < STATES; i++) {
                states[i] = new Chart();
            }
        }

        void record(Chart chart) {
            if (size == STATES) {
                oldest = (oldest + 1) % STATES;
                size--;
            }
            states[(oldest + size) % STATES].copyFrom(chart);
            size++;
        }

        int takeLatest(Chart chart) {
            if (size == 0) {
                return NONE;
            }
            size--;
            chart.copyFrom(states[(oldest + size) % STATES]);
            return size;
        }
    }

    /** The text of bars and arrows, and the parts that were read from it. */
    private static final class PartsText {
        static final int HEAD = 0;
        static final int DAY = 1;
        static final int LENGTH = 2;
        static final int TARGET = 3;

        final char[] signs = new char[TEXT_ROOM];
        int length;
        int parts;
        /** A part takes three characters at least, and a semicolon. */
        final int[] head = new int[TEXT_ROOM / 4 + 1];
        final int[] second = new int[TEXT_ROOM / 4 + 1];
        /** 0 for an arrow. */
        final int[] days = new int[TEXT_ROOM / 4 + 1];
        private int field;
        private int value;
        private int digits;

        int append(char sign) {
            if (length >= TEXT_ROOM) {
                return FULL;
            }
            signs[length] = sign;
            length++;
            return length;
        }

        boolean isArrow(int part) {
            return days[part] == 0;
        }

        /** Reads the parts and tells the fault, or NONE. */
        int readParts() {
            parts = 0;
            begin(HEAD);
            for (int i = 0; i < length; i++) {
                if (!take(signs[i])) {
                    return i;
                }
            }
            if (digits == 0 || field == HEAD || field == DAY) {
                return length;
            }
            endPart();
            return NONE;
        }

        boolean take(char sign) {
            if (sign >= '0' && sign <= '9') {
                return takeDigit(sign - '0');
            }
            return digits > 0 && takeMark(sign);
        }

        boolean takeDigit(int digit) {
            boolean zeroInFront = digits > 0 && value == 0;
            boolean noDays = field == LENGTH && digits == 0 && digit == 0;
            if (zeroInFront || noDays || value * 10 + digit > greatest()) {
                return false;
            }
            value = value * 10 + digit;
            digits++;
            return true;
        }

        int greatest() {
            switch (field) {
                case DAY: return DAYS - 1;
                case LENGTH: return LONGEST_BAR;
                default: return BARS_EVER - 1;
            }
        }

        boolean takeMark(char sign) {
            switch (sign) {
                case '@': return field == HEAD && value < LANES && turnTo(DAY);
                case '>': return field == HEAD && turnTo(TARGET);
                case '+': return field == DAY && turnTo(LENGTH);
                case ';': return (field == LENGTH || field == TARGET) && endPart();
                default: return false;
            }
        }

        boolean turnTo(int next) {
            storeNumber();
            begin(next);
            return true;
        }

        boolean endPart() {
            if (field == TARGET && parts < days.length) {
                days[parts] = 0;
            }
            storeNumber();
            parts++;
            begin(HEAD);
            return true;
        }

        void begin(int next) {
            field = next;
            value = 0;
            digits = 0;
        }

        void storeNumber() {
            if (parts >= days.length) {
                return;
            }
            switch (field) {
                case HEAD:
                    head[parts] = value;
                    break;
                case LENGTH:
                    days[parts] = value;
                    break;
                default:
                    second[parts] = value;
            }
        }
    }
}
