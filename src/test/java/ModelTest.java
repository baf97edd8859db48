import java.util.Random;

/**
 * Long runs of calls, the same ones each time, on the program and on NaiveStrips. Two numbers may be
 * told, the first run and how many: java ModelTest 1000 400.
 */
public final class ModelTest {
    private static final int RUNS = 30;
    private static final int CALLS = 512;

    private final Random random;
    private final BarStrips program = new BarStrips();
    private final NaiveStrips model = new NaiveStrips();
    private final StringBuilder calls = new StringBuilder();
    private final int lanes;
    private final int days;
    private final int length;
    private final int arrowChance;
    private final int takeChance;
    private int wrong;

    private ModelTest(int seed) {
        random = new Random(seed);
        lanes = 1 + random.nextInt(12);
        days = new int[] {25, 60, 120, 200}[random.nextInt(4)];
        length = new int[] {3, 8, 30}[random.nextInt(3)];
        arrowChance = 10 + random.nextInt(40);
        takeChance = random.nextInt(12);
    }

    public static void main(String[] args) {
        int first = args.length > 0 ? Integer.parseInt(args[0]) : 0;
        int runs = args.length > 1 ? Integer.parseInt(args[1]) : RUNS;
        int failed = 0;
        for (int seed = first; seed < first + runs; seed++) {
            ModelTest run = new ModelTest(seed);
            run.play();
            failed += run.wrong > 0 ? 1 : 0;
            System.out.println((run.wrong > 0 ? "FAILED" : "ok") + " model run " + seed);
        }
        if (failed > 0) {
            System.exit(1);
        }
    }

    private void play() {
        for (int call = 0; call < CALLS && wrong == 0; call++) {
            if (call % 128 == 127) {
                askAll();
            } else if (random.nextInt(100) < 70) {
                change();
            } else {
                ask();
            }
        }
    }

    private void due(String call, long got, long want) {
        calls.append(call).append(" = ").append(want).append('\n');
        if (got != want) {
            wrong++;
            System.out.println(calls + "but " + call + " answered " + got);
        }
    }

    private int near(int bound) {
        switch (random.nextInt(80)) {
            case 0: return random.nextInt();
            case 1: return random.nextBoolean() ? Integer.MAX_VALUE : Integer.MIN_VALUE;
            case 2: case 3: return random.nextInt(2 * bound) - bound / 2;
            default: return random.nextInt(bound);
        }
    }

    private int someBar() {
        int ever = Math.max(1, model.count(10));
        int bar = near(ever);
        for (int i = 0; i < 6 && model.barOf(bar, 0) < 0; i++) {
            bar = random.nextInt(ever);
        }
        return bar;
    }

    private int someArrow() {
        int ever = Math.max(1, model.count(11));
        int arrow = near(ever);
        for (int i = 0; i < 6 && model.arrowOf(arrow, 0) < 0; i++) {
            arrow = random.nextInt(ever);
        }
        return arrow;
    }

    private void change() {
        int chance = random.nextInt(100);
        if (chance < 28) {
            addBar();
        } else if (chance < 28 + arrowChance) {
            addArrow();
        } else if (chance < 28 + arrowChance + takeChance) {
            take();
        } else {
            changeOther();
        }
    }

    private void addBar() {
        int lane = near(lanes);
        int day = near(days);
        int many = 1 + near(length);
        due("bar(" + lane + ", " + day + ", " + many + ")",
                program.bar(lane, day, many), model.bar(lane, day, many));
    }

    private void addArrow() {
        int from = someBar();
        int to = someBar();
        if (random.nextInt(4) > 0 && model.barOf(from, 1) > model.barOf(to, 1)) {
            int other = from;
            from = to;
            to = other;
        }
        due("arrow(" + from + ", " + to + ")", program.arrow(from, to), model.arrow(from, to));
    }

    private void take() {
        if (random.nextBoolean()) {
            int bar = someBar();
            due("takeBar(" + bar + ")", program.takeBar(bar), model.takeBar(bar));
        } else {
            int arrow = someArrow();
            due("takeArrow(" + arrow + ")", program.takeArrow(arrow), model.takeArrow(arrow));
        }
    }

    private void changeOther() {
        int bar = someBar();
        int one = near(12);
        int two = near(12);
        int from = near(200);
        int to = from + random.nextInt(20) - 1;
        int many = 1 + near(random.nextInt(3) == 0 ? 30 : 5);
        switch (random.nextInt(13)) {
            case 0: case 1:
                int day = near(days);
                due("move(" + bar + ", " + one + ", " + day + ")",
                        program.move(bar, one, day), model.move(bar, one, day));
                break;
            case 2:
                due("swap(" + one + ", " + two + ")", program.swap(one, two), model.swap(one, two));
                break;
            case 3:
                due("pack()", program.pack(), model.pack());
                break;
            case 4: case 5:
                due("slip(" + bar + ", " + many + ")", program.slip(bar, many), model.slip(bar, many));
                break;
            case 6:
                due("pull(" + bar + ")", program.pull(bar), model.pull(bar));
                break;
            case 7:
                int width = 1 + near(9);
                due("width(" + from + ", " + to + ", " + width + ")",
                        program.width(from, to, width), model.width(from, to, width));
                break;
            case 8:
                int which = near(2);
                int value = which == 0 ? near(3) : 10 + near(60);
                due("set(" + which + ", " + value + ")",
                        program.set(which, value), model.set(which, value));
                break;
            case 9:
                due("undo()", program.undo(), model.undo());
                break;
            case 10:
                due("keep()", program.keep(), model.keep());
                break;
            case 11:
                due("restore()", program.restore(), model.restore());
                break;
            default:
                text();
        }
    }

    private void text() {
        StringBuilder text = new StringBuilder();
        int parts = 1 + random.nextInt(random.nextInt(4) == 0 ? 12 : 3);
        for (int i = 0; i < parts; i++) {
            text.append(i > 0 ? ";" : "");
            if (random.nextInt(3) == 0) {
                text.append(someBar()).append('>').append(someBar());
            } else {
                text.append(near(lanes)).append('@').append(near(days)).append('+').append(1 + near(length));
            }
        }
        if (random.nextInt(3) == 0) {
            String odd = "0123456789@+>; x" + (char) 255;
            text.setCharAt(random.nextInt(text.length()), odd.charAt(random.nextInt(odd.length())));
        }
        if (random.nextInt(3) > 0) {
            due("clearText()", program.clearText(), model.clearText());
        }
        for (int i = 0; i < text.length(); i++) {
            char sign = text.charAt(i);
            due("type('" + sign + "')", program.type(sign), model.type(sign));
        }
        due("fault()", program.fault(), model.fault());
        due("addAll()", program.addAll(), model.addAll());
    }

    private void ask() {
        int bar = someBar();
        int arrow = someArrow();
        int what = near(18);
        int one = near(12);
        int two = near(200);
        switch (random.nextInt(12)) {
            case 0: case 1:
                due("barOf(" + bar + ", " + what + ")", program.barOf(bar, what), model.barOf(bar, what));
                break;
            case 2: case 3:
                due("arrowOf(" + arrow + ", " + what + ")",
                        program.arrowOf(arrow, what), model.arrowOf(arrow, what));
                break;
            case 4:
                due("reason(" + arrow + ", " + two + ")",
                        program.reason(arrow, two), model.reason(arrow, two));
                break;
            case 5:
                due("cell(" + one + ", " + two + ")", program.cell(one, two), model.cell(one, two));
                break;
            case 6:
                due("strip(" + one + ", " + what % 7 + ")",
                        program.strip(one, what % 7), model.strip(one, what % 7));
                break;
            case 7: case 8:
                due("count(" + what + ")", program.count(what), model.count(what));
                break;
            case 9:
                int many = near(31);
                due("ifSlipped(" + bar + ", " + many + ")",
                        program.ifSlipped(bar, many), model.ifSlipped(bar, many));
                break;
            case 10:
                due("latest(" + bar + ")", program.latest(bar), model.latest(bar));
                break;
            default:
                due("bestLane(" + bar + ")", program.bestLane(bar), model.bestLane(bar));
        }
    }

    private void askAll() {
        for (int what = -1; what <= 17; what++) {
            due("count(" + what + ")", program.count(what), model.count(what));
        }
        for (int bar = -1; bar <= model.count(10); bar++) {
            askBar(bar);
        }
        for (int arrow = -1; arrow <= model.count(11); arrow++) {
            askArrow(arrow);
        }
        for (int strip = -1; strip <= model.count(7); strip++) {
            for (int what = -1; what <= 5; what++) {
                due("strip(" + strip + ", " + what + ")",
                        program.strip(strip, what), model.strip(strip, what));
            }
        }
        for (int lane = -1; lane <= 12; lane++) {
            for (int day = -1; day <= 200; day++) {
                due("cell(" + lane + ", " + day + ")", program.cell(lane, day), model.cell(lane, day));
            }
        }
        for (int what = -1; what <= 4; what++) {
            due("bestSwap(" + what + ")", program.bestSwap(what), model.bestSwap(what));
        }
        due("longest()", program.longest(), model.longest());
        due("share()", Double.doubleToLongBits(program.share()), Double.doubleToLongBits(model.share()));
    }

    private void askBar(int bar) {
        for (int what = -1; what <= 12; what++) {
            due("barOf(" + bar + ", " + what + ")", program.barOf(bar, what), model.barOf(bar, what));
        }
        due("latest(" + bar + ")", program.latest(bar), model.latest(bar));
        due("bestLane(" + bar + ")", program.bestLane(bar), model.bestLane(bar));
        for (int many = 0; many <= 31; many++) {
            due("ifSlipped(" + bar + ", " + many + ")",
                    program.ifSlipped(bar, many), model.ifSlipped(bar, many));
        }
    }

    private void askArrow(int arrow) {
        for (int what = -1; what <= 8; what++) {
            due("arrowOf(" + arrow + ", " + what + ")",
                    program.arrowOf(arrow, what), model.arrowOf(arrow, what));
        }
        for (int bend = -1; bend <= 201; bend++) {
            due("reason(" + arrow + ", " + bend + ")",
                    program.reason(arrow, bend), model.reason(arrow, bend));
        }
    }
}
