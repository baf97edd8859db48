/** Each sentence of "Terms" on bars, lanes and arrows that names a boundary, at that boundary. */
public final class TermsBarsEdgesTest {
    /** Thirty bars of a day in lane 0, and 40 arrows between the first four and the next ten. */
    private static final String THIRTY_BARS = """
        for 0..29: bar(0, #, 1) #
        """;
    private static final String FORTY_ARROWS = """
        for 4..13: arrow(0, #) #-4
        for 4..13: arrow(1, #) #+6
        for 4..13: arrow(2, #) #+16
        for 4..13: arrow(3, #) #+26
        """;

    public static void main(String[] args) {
        lanes();
        days();
        numbersOfBars();
        barsAtATime();
        daysInCommon();
        numbersOfArrows();
        arrowsAtATime();
        rings();
        late();
        daysOfABend();
        reasons();
        orderOfReasons();
        choiceOfBends();
        middleBend();
        notDrawn();
        crossings();
        crossingsAtEnds();
        calls();
        Run.finish();
    }

    private static void lanes() {
        Run.test("terms: lanes 0 to 11 for bar", """
            bar(0, 0, 1) 0
            bar(11, 0, 1) 1
            bar(-1, 0, 1) UNKNOWN
            bar(12, 0, 1) UNKNOWN
            bar(MIN, 0, 1) UNKNOWN
            bar(MAX, 0, 1) UNKNOWN
            count(0) 2
            """);
        Run.test("terms: lanes 0 to 11 for move", """
            bar(5, 0, 1) 0
            move(0, 0, 0) 0
            move(0, 11, 0) 0
            move(0, -1, 0) UNKNOWN
            move(0, 12, 0) UNKNOWN
            move(0, MIN, 0) UNKNOWN
            move(0, MAX, 0) UNKNOWN
            barOf(0, 0) 11
            """);
        Run.test("terms: lanes 0 to 11 for swap", """
            bar(0, 0, 1) 0
            swap(0, 11) 0
            barOf(0, 0) 11
            swap(11, 0) 0
            swap(0, 12) UNKNOWN
            swap(12, 0) UNKNOWN
            swap(0, -1) UNKNOWN
            swap(-1, 0) UNKNOWN
            swap(MIN, 0) UNKNOWN
            swap(0, MAX) UNKNOWN
            barOf(0, 0) 0
            """);
        Run.test("terms: lanes 0 to 11 for cell", """
            bar(0, 0, 1) 0
            bar(11, 0, 1) 1
            cell(#, 0) 0 NONE NONE NONE NONE NONE NONE NONE NONE NONE NONE 1 UNKNOWN
            cell(-1, 0) UNKNOWN
            cell(MIN, 0) UNKNOWN
            cell(MAX, 0) UNKNOWN
            """);
        Run.test("terms: there are 12 lanes, all of them with bars", """
            for 0..11: bar(#, 5, 2) #
            count(2) 12
            for 0..11: cell(#, 6) #
            """);
    }

    private static void days() {
        Run.test("terms: days from 0 on", """
            bar(0, -1, 1) BAD_VALUE
            bar(0, MIN, 1) BAD_VALUE
            bar(0, 0, 1) 0
            move(0, 0, -1) BAD_VALUE
            cell(0, -1) UNKNOWN
            cell(0, 0) 0
            width(-1, 0, 1) BAD_VALUE
            width(0, 0, 1) 1
            """);
        Run.test("terms: a bar has 1 to 30 days", """
            bar(0, 0, 0) BAD_VALUE
            bar(0, 0, 31) BAD_VALUE
            bar(0, 0, -1) BAD_VALUE
            bar(0, 0, MIN) BAD_VALUE
            bar(0, 0, MAX) BAD_VALUE
            bar(0, 0, 1) 0
            bar(1, 0, 30) 1
            barOf(0, 2) 1
            barOf(1, 2) 30
            """);
        Run.test("terms: its end is the day behind its last one", """
            bar(0, 3, 4) 0
            cell(0, #) NONE NONE NONE 0 0 0 0 NONE
            barOf(0, 3) 7
            bar(1, 3, 1) 1
            barOf(1, 3) 4
            """);
        Run.test("terms: its end is at most 200", """
            bar(0, 199, 1) 0
            bar(1, 170, 30) 1
            bar(2, 185, 15) 2
            bar(3, 199, 2) BAD_VALUE
            bar(3, 171, 30) BAD_VALUE
            bar(3, 185, 16) BAD_VALUE
            bar(3, 200, 1) BAD_VALUE
            for 0..2: barOf(#, 3) 200
            count(6) 200
            count(0) 3
            """);
        Run.test("terms: an end of at most 200 for move", """
            bar(0, 0, 30) 0
            bar(1, 0, 1) 1
            move(0, 0, 170) 0
            move(0, 0, 171) BAD_VALUE
            move(1, 1, 199) 0
            move(1, 1, 200) BAD_VALUE
            barOf(0, 3) 200
            barOf(1, 3) 200
            """);
        Run.test("terms: an end of at most 200 for slip", """
            bar(0, 160, 30) 0
            slip(0, 11) NOT_POSSIBLE
            slip(0, 10) 1
            barOf(0, 3) 200
            slip(0, 1) NOT_POSSIBLE
            """);
    }

    private static void numbersOfBars() {
        Run.test("terms: bars have numbers from 0, in the order in which they came", """
            bar(9, 50, 2) 0
            bar(3, 7, 2) 1
            bar(3, 0, 2) 2
            cell(9, 50) 0
            cell(3, 7) 1
            cell(3, 0) 2
            """);
        Run.test("terms: the number of a bar that went isn't given again", """
            bar(0, 0, 1) 0
            bar(0, 1, 1) 1
            takeBar(1) 0
            bar(0, 1, 1) 2
            takeBar(0) 0
            bar(0, 0, 1) 3
            cell(0, #) 3 2
            barOf(#, 0) UNKNOWN UNKNOWN 0 0 UNKNOWN
            """);
        Run.test("terms: at most 90 bars ever", """
            for 0..88: bar(0, 0, 1) # | takeBar(#) 0
            bar(0, 0, 1) 89
            bar(0, 1, 1) FULL
            takeBar(89) 0
            bar(0, 1, 1) FULL
            count(10) 90
            count(0) 0
            """);
        Run.test("terms: at most 90 bars ever for addAll", """
            for 0..87: bar(0, 0, 1) # | takeBar(#) 0
            text 0@0+1;0@1+1;0@2+1
            addAll() FULL
            count(10) 88
            count(0) 0
            text 0@0+1;0@1+1
            addAll() 2
            count(10) 90
            barOf(89, 1) 1
            text 0@2+1
            addAll() FULL
            """);
        Run.test("terms: the bars so far are a part of the state", """
            for 0..88: bar(0, 0, 1) # | takeBar(#) 0
            keep() 0
            bar(0, 0, 1) 89
            bar(0, 1, 1) FULL
            undo() 3
            bar(0, 1, 1) 89
            restore() 0
            count(10) 89
            bar(0, 2, 1) 89
            """);
    }

    private static void barsAtATime() {
        Run.test("terms: at most 30 bars at a time", THIRTY_BARS, """
            count(0) 30
            barOf(29, 1) 29
            bar(1, 0, 1) FULL
            bar(0, 30, 1) FULL
            count(0) 30
            count(10) 30
            takeBar(0) 0
            bar(1, 0, 1) 30
            bar(1, 1, 1) FULL
            barOf(30, 0) 1
            """);
        Run.test("terms: at most 30 bars at a time, 29 are there", """
            for 0..28: bar(0, #, 1) #
            bar(0, 29, 1) 29
            bar(0, 30, 1) FULL
            undo() 3
            bar(0, 30, 1) 29
            """);
        Run.test("terms: at most 30 bars at a time for addAll", """
            for 0..27: bar(0, #, 1) #
            text 1@0+1;1@1+1;1@2+1
            addAll() FULL
            count(0) 28
            text 1@0+1;1@1+1
            addAll() 2
            count(0) 30
            text 1@2+1
            addAll() FULL
            """);
        Run.test("terms: 30 bars are pushed, packed and told", THIRTY_BARS, """
            longest() 30
            count(9) 30
            pack() NONE
            for 0..29: move(#, 5, #) 0
            pack() 1
            barOf(29, 0) 0
            slip(0, 1) 30
            barOf(29, 1) 30
            count(12) 30
            latest(0) 1
            """);
    }

    private static void daysInCommon() {
        Run.test("terms: no two bars of a lane have a day in common", """
            bar(4, 10, 5) 0
            bar(4, 9, 2) NOT_POSSIBLE
            bar(4, 14, 1) NOT_POSSIBLE
            bar(4, 10, 5) NOT_POSSIBLE
            bar(4, 12, 1) NOT_POSSIBLE
            bar(4, 0, 30) NOT_POSSIBLE
            bar(4, 10, 1) NOT_POSSIBLE
            bar(4, 9, 1) 1
            bar(4, 15, 1) 2
            bar(3, 10, 5) 3
            bar(5, 10, 5) 4
            """);
        Run.test("terms: no day in common for move", """
            bar(4, 10, 5) 0
            bar(2, 0, 3) 1
            move(1, 4, 8) NOT_POSSIBLE
            move(1, 4, 14) NOT_POSSIBLE
            move(1, 4, 11) NOT_POSSIBLE
            move(1, 4, 7) 0
            move(1, 4, 15) 0
            move(1, 4, 16) 0
            """);
        Run.test("terms: no day in common for addAll", """
            bar(4, 10, 5) 0
            text 4@9+2
            addAll() NOT_POSSIBLE
            text 4@14+1
            addAll() NOT_POSSIBLE
            text 4@9+1;4@15+1;4@15+1
            addAll() NOT_POSSIBLE
            text 4@9+1;4@15+1
            addAll() 2
            """);
        Run.test("terms: no day in common behind a slip, a pull, a swap, a packing and what is restored", """
            bar(0, 0, 5) 0
            bar(0, 7, 3) 1
            bar(0, 10, 4) 2
            bar(1, 2, 6) 3
            slip(0, 4) 3
            cell(0, #) NONE NONE NONE NONE 0 0 0 0 0 1 1 1 2 2 2 2 NONE
            keep() 4
            pull(0) 4
            pull(1) 4
            pull(2) 4
            cell(0, #) 0 0 0 0 0 1 1 1 2 2 2 2 NONE NONE NONE NONE NONE
            swap(0, 1) 0
            cell(1, #) 0 0 0 0 0 1 1 1 2 2 2 2 NONE NONE NONE NONE NONE
            cell(0, #) NONE NONE 3 3 3 3 3 3 NONE NONE NONE NONE NONE
            pack() 2
            cell(0, #) 0 0 0 0 0 1 1 1 2 2 2 2 NONE NONE NONE NONE NONE
            cell(1, #) NONE NONE 3 3 3 3 3 3 NONE NONE NONE NONE NONE
            restore() 4
            cell(0, #) NONE NONE NONE NONE 0 0 0 0 0 1 1 1 2 2 2 2 NONE
            undo() 3
            undo() 2
            cell(0, #) NONE NONE 3 3 3 3 3 3 NONE NONE NONE NONE NONE
            bar(0, 7, 1) NOT_POSSIBLE
            bar(0, 8, 1) 4
            """);
        Run.test("terms: no day in common at both ends of the days", """
            bar(0, 0, 1) 0
            bar(0, 199, 1) 1
            bar(0, 0, 2) NOT_POSSIBLE
            bar(0, 198, 2) NOT_POSSIBLE
            bar(0, 1, 1) 2
            bar(0, 198, 1) 3
            """);
    }

    private static void numbersOfArrows() {
        Run.test("terms: arrows have numbers from 0, in the order in which they came", THIRTY_BARS, """
            arrow(5, 9) 0
            arrow(0, 1) 1
            takeArrow(0) 9
            arrow(5, 9) 2
            arrowOf(0, 0) UNKNOWN
            arrowOf(1, 0) 0
            arrowOf(2, 0) 5
            arrowOf(3, 0) UNKNOWN
            """);
        Run.test("terms: at most 200 arrows ever", """
            bar(0, 0, 1) 0
            bar(0, 1, 1) 1
            bar(0, 2, 1) 2
            for 0..198: arrow(0, 1) # | takeArrow(#) 1
            arrow(0, 1) 199
            arrow(0, 2) FULL
            takeArrow(199) 1
            arrow(0, 1) FULL
            count(11) 200
            count(1) 0
            """);
        Run.test("terms: at most 200 arrows ever for addAll", """
            bar(0, 0, 1) 0
            bar(0, 1, 1) 1
            bar(0, 2, 1) 2
            for 0..197: arrow(0, 1) # | takeArrow(#) 1
            text 0>1;1>2;0>2
            addAll() FULL
            count(11) 198
            text 0>1;0>2
            addAll() 2
            count(11) 200
            arrowOf(199, 1) 2
            text 1>2
            addAll() FULL
            """);
        Run.test("terms: the arrows so far are a part of the state", """
            bar(0, 0, 1) 0
            bar(0, 1, 1) 1
            for 0..198: arrow(0, 1) # | takeArrow(#) 1
            keep() 2
            arrow(0, 1) 199
            takeArrow(199) 1
            arrow(0, 1) FULL
            undo() 3
            undo() 2
            arrow(0, 1) 199
            restore() 2
            arrow(0, 1) 199
            """);
    }

    private static void arrowsAtATime() {
        Run.test("terms: at most 40 arrows at a time", THIRTY_BARS, FORTY_ARROWS, """
            count(1) 40
            arrow(0, 14) FULL
            count(1) 40
            count(11) 40
            takeArrow(0) 4
            arrow(0, 14) 40
            arrow(0, 15) FULL
            arrowOf(40, 1) 14
            """);
        Run.test("terms: at most 40 arrows at a time, a bar goes with ten", THIRTY_BARS, FORTY_ARROWS, """
            takeBar(0) 10
            count(1) 30
            for 14..23: arrow(1, #) #+26
            count(1) 40
            arrow(1, 24) FULL
            """);
        Run.test("terms: at most 40 arrows at a time for addAll", THIRTY_BARS, FORTY_ARROWS, """
            takeArrow(39) 13
            takeArrow(38) 12
            text 0>20;0>21;0>22
            addAll() FULL
            count(1) 38
            text 0>20;0>21
            addAll() 2
            count(1) 40
            text 0>22
            addAll() FULL
            """);
        Run.test("terms: at most one arrow from a bar to another one", """
            bar(0, 0, 1) 0
            bar(1, 5, 1) 1
            bar(2, 5, 1) 2
            arrow(0, 1) 0
            arrow(0, 1) NOT_POSSIBLE
            arrow(0, 2) 1
            arrow(1, 2) 2
            takeArrow(0) 1
            arrow(0, 1) 3
            arrow(0, 1) NOT_POSSIBLE
            """);
    }

    private static void rings() {
        Run.test("terms: no ring of one, two or three", """
            bar(0, 0, 1) 0
            bar(0, 1, 1) 1
            bar(0, 2, 1) 2
            arrow(0, 0) NOT_POSSIBLE
            arrow(0, 1) 0
            arrow(1, 0) NOT_POSSIBLE
            arrow(1, 2) 1
            arrow(2, 0) NOT_POSSIBLE
            arrow(0, 2) 2
            takeArrow(2) 2
            takeArrow(1) 2
            arrow(2, 0) 3
            """);
        Run.test("terms: no ring of all 30 bars", THIRTY_BARS, """
            for 0..28: arrow(#, #+1) #
            arrow(29, 0) NOT_POSSIBLE
            arrow(28, 0) NOT_POSSIBLE
            arrow(29, 28) NOT_POSSIBLE
            arrow(0, 29) 29
            takeArrow(14) 15
            arrow(29, 0) NOT_POSSIBLE
            takeArrow(29) 29
            arrow(29, 0) 30
            """);
        Run.test("terms: no ring of all 30 bars, arrows that came from behind", THIRTY_BARS, """
            for 0..28: arrow(28-#, 29-#) #
            arrow(29, 0) NOT_POSSIBLE
            arrow(0, 29) 29
            """);
        Run.test("terms: no ring of late arrows", """
            bar(0, 20, 1) 0
            bar(0, 10, 1) 1
            bar(0, 0, 1) 2
            arrow(0, 1) 0
            arrow(1, 2) 1
            count(4) 2
            arrow(2, 0) NOT_POSSIBLE
            arrow(2, 1) NOT_POSSIBLE
            arrow(1, 0) NOT_POSSIBLE
            arrow(0, 2) 2
            """);
        Run.test("terms: no ring by addAll", """
            text 0@0+1;0@1+1;0@2+1;0>1;1>2;2>0
            addAll() NOT_POSSIBLE
            count(0) 0
            text 0@0+1;0@1+1;0@2+1;0>1;1>2;0>2
            addAll() 6
            """);
    }

    private static void late() {
        Run.test("terms: late if the first day is less than the end, by as many days", """
            bar(0, 5, 3) 0
            bar(1, 9, 1) 1
            arrow(0, 1) 0
            arrowOf(0, 3) 0
            move(1, 1, 8) 0
            arrowOf(0, 3) 0
            count(4) 0
            move(1, 1, 7) 1
            arrowOf(0, 3) 1
            count(4) 1
            move(1, 1, 0) 1
            arrowOf(0, 3) 8
            """);
        Run.test("terms: late by 200 days at most", """
            bar(0, 199, 1) 0
            bar(1, 0, 1) 1
            arrow(0, 1) 0
            arrowOf(0, 3) 200
            arrowOf(0, 4) 0
            """);
        Run.test("terms: an arrow of 198 days is not late", """
            bar(0, 0, 1) 0
            bar(1, 199, 1) 1
            arrow(0, 1) 0
            arrowOf(0, 3) 0
            arrowOf(0, 4) 199
            arrowOf(0, 5) 396
            reason(0, 0) 1
            reason(0, 1) 0
            reason(0, 199) 0
            reason(0, 200) 1
            set(0, 1) 0
            arrowOf(0, 2) 199
            """);
    }

    private static void daysOfABend() {
        Run.test("terms: a bend is a day from the end to the first day, both with it", """
            bar(0, 0, 2) 0
            bar(3, 6, 2) 1
            arrow(0, 1) 0
            reason(0, -1) 1
            reason(0, #) 1 1 0 0 0 0 0 1 1
            arrowOf(0, 4) 5
            reason(0, MIN) 1
            reason(0, MAX) 1
            """);
        Run.test("terms: one bend, if the first day is the end", """
            bar(0, 0, 2) 0
            bar(3, 2, 2) 1
            arrow(0, 1) 0
            reason(0, #) 1 1 0 1
            arrowOf(0, 2) 2
            arrowOf(0, 4) 1
            arrowOf(0, 5) 0
            """);
        Run.test("terms: no bend, if an arrow is late by a day", """
            bar(0, 0, 3) 0
            bar(3, 2, 2) 1
            arrow(0, 1) 0
            reason(0, #) 1 1 1 1 1
            arrowOf(0, 2) NONE
            arrowOf(0, 4) 0
            """);
    }

    private static void reasons() {
        String arrow = """
            bar(0, 0, 2) 0
            bar(3, 12, 2) 1
            arrow(0, 1) 0
            """;
        String back = """
            bar(3, 0, 2) 0
            bar(0, 12, 2) 1
            arrow(0, 1) 0
            """;
        Run.test("terms: reason 2, a day of a bar ahead of the bend", arrow, """
            bar(0, 6, 1) 2
            reason(0, #) 1 1 0 0 0 0 0 2 2 2 2 2 2 1
            move(2, 0, 2) 0
            reason(0, #) 1 1 0 2 2 2 2 2 2 2 2 2 2 1
            move(2, 0, 11) 0
            reason(0, #) 1 1 0 0 0 0 0 0 0 0 0 0 2 1
            move(2, 0, 12) 0
            reason(0, #) 1 1 0 0 0 0 0 0 0 0 0 0 0 1
            """);
        Run.test("terms: reason 3, a day of a bar from the bend on", arrow, """
            bar(3, 6, 1) 2
            reason(0, #) 1 1 3 3 3 3 3 0 0 0 0 0 0 1
            move(2, 3, 11) 0
            reason(0, #) 1 1 3 3 3 3 3 3 3 3 3 3 0 1
            move(2, 3, 2) 0
            reason(0, #) 1 1 3 0 0 0 0 0 0 0 0 0 0 1
            move(2, 3, 1) 0
            reason(0, #) 1 1 0 0 0 0 0 0 0 0 0 0 0 1
            """);
        Run.test("terms: reasons 2, 3 and 4 by the bar of number 0", """
            bar(0, 6, 2) 0
            bar(0, 0, 2) 1
            bar(3, 12, 2) 2
            arrow(1, 2) 0
            reason(0, #) 1 1 0 0 0 0 0 2 2 2 2 2 2 1
            arrowOf(0, 4) 5
            move(0, 3, 6) 0
            reason(0, #) 1 1 3 3 3 3 3 3 0 0 0 0 0 1
            arrowOf(0, 4) 5
            move(0, 1, 6) 0
            reason(0, #) 1 1 0 0 0 0 0 4 0 0 0 0 0 1
            arrowOf(0, 4) 10
            """);
        Run.test("terms: reason 4, one bar with both days", arrow, """
            bar(1, 4, 4) 2
            reason(0, #) 1 1 0 0 0 4 4 4 0 0 0 0 0 1
            move(2, 2, 1) 0
            reason(0, #) 1 1 4 4 4 0 0 0 0 0 0 0 0 1
            move(2, 2, 11) 0
            reason(0, #) 1 1 0 0 0 0 0 0 0 0 0 0 4 1
            move(2, 2, 12) 0
            reason(0, #) 1 1 0 0 0 0 0 0 0 0 0 0 0 1
            """);
        Run.test("terms: reason 4 is not that of two bars, nor of a bar of one day", arrow, """
            bar(1, 4, 2) 2
            bar(1, 6, 2) 3
            bar(2, 9, 1) 4
            reason(0, #) 1 1 0 0 0 4 0 4 0 0 0 0 0 1
            """);
        Run.test("terms: reason 4, a lane strictly between both", back, """
            bar(4, 3, 9) 2
            reason(0, 7) 0
            move(2, 3, 3) 0
            reason(0, 7) 2
            move(2, 2, 3) 0
            reason(0, 7) 4
            move(2, 1, 3) 0
            reason(0, 7) 4
            move(2, 0, 3) 0
            reason(0, 7) 3
            move(2, 11, 3) 0
            reason(0, 7) 0
            """);
        Run.test("terms: both bars in one lane, 2 and 3 in that lane, and no lane between", """
            bar(5, 0, 2) 0
            bar(5, 12, 2) 1
            arrow(0, 1) 0
            bar(4, 0, 20) 2
            bar(6, 0, 20) 3
            arrowOf(0, 4) 11
            bar(5, 5, 2) 4
            reason(0, #) 1 1 3 3 3 3 2 2 2 2 2 2 2 1
            arrowOf(0, 2) NONE
            """);
        Run.test("terms: no lane between lanes 0 and 1, ten between 0 and 11", """
            bar(0, 0, 2) 0
            bar(1, 12, 2) 1
            arrow(0, 1) 0
            bar(10, 0, 20) 2
            reason(0, 5) 0
            move(1, 11, 12) 1
            reason(0, 5) 4
            move(2, 1, 0) 1
            reason(0, 5) 4
            takeBar(2) 0
            reason(0, 5) 0
            """);
    }

    private static void orderOfReasons() {
        Run.test("terms: the reasons are asked in their order", """
            bar(0, 0, 2) 0
            bar(3, 12, 2) 1
            arrow(0, 1) 0
            bar(0, 4, 2) 2
            bar(3, 7, 2) 3
            bar(1, 2, 10) 4
            reason(0, #) 1 1 3 3 3 2 2 2 2 2 2 2 2 1
            takeBar(2) 0
            reason(0, #) 1 1 3 3 3 3 3 3 3 4 4 4 0 1
            takeBar(3) 0
            reason(0, #) 1 1 0 4 4 4 4 4 4 4 4 4 0 1
            bar(0, 8, 1) 5
            reason(0, #) 1 1 0 4 4 4 4 4 4 2 2 2 2 1
            move(1, 3, 1) 1
            reason(0, #) 1 1 1 1 1 1 1 1 1 1 1 1 1 1
            """);
    }

    private static void choiceOfBends() {
        Run.test("terms: the setting 0 chooses the first or the last free bend", """
            bar(0, 0, 2) 0
            bar(3, 12, 2) 1
            arrow(0, 1) 0
            arrowOf(0, 2) 2
            set(0, 1) 0
            arrowOf(0, 2) 12
            bar(3, 2, 2) 2
            bar(0, 10, 2) 3
            arrowOf(0, 2) 10
            set(0, 0) 1
            arrowOf(0, 2) 4
            bar(1, 3, 3) 4
            arrowOf(0, 2) 6
            arrowOf(0, 4) 5
            """);
    }

    private static void middleBend() {
        Run.test("terms: the bend that is the nearest to the middle, of several the first one", """
            bar(0, 0, 2) 0
            bar(3, 12, 2) 1
            arrow(0, 1) 0
            set(0, 2) 0
            arrowOf(0, 2) 7
            move(1, 3, 13) 0
            arrowOf(0, 2) 7
            move(1, 3, 3) 0
            arrowOf(0, 2) 2
            move(1, 3, 2) 0
            arrowOf(0, 2) 2
            move(1, 3, 12) 0
            bar(1, 4, 6) 2
            arrowOf(0, 2) 4
            move(2, 1, 5) 0
            arrowOf(0, 2) 5
            move(2, 1, 3) 0
            arrowOf(0, 2) 9
            """);
    }

    private static void notDrawn() {
        Run.test("terms: a late arrow is not drawn", """
            bar(0, 0, 2) 0
            bar(3, 1, 2) 1
            arrow(0, 1) 0
            arrowOf(0, #) 0 1 NONE 1 0 NONE 0 NONE BAD_VALUE
            count(3) 1
            count(4) 1
            """);
        Run.test("terms: an arrow without a free bend is not drawn", """
            bar(0, 0, 2) 0
            bar(2, 5, 2) 1
            arrow(0, 1) 0
            bar(1, 1, 5) 2
            arrowOf(0, #) 0 1 NONE 0 0 NONE 0 NONE BAD_VALUE
            count(3) 1
            count(4) 0
            move(2, 1, 2) 0
            arrowOf(0, #) 0 1 2 0 1 6 0 0 BAD_VALUE
            move(2, 1, 0) 0
            arrowOf(0, 2) 5
            count(3) 0
            """);
    }

    private static void crossings() {
        Run.test("terms: a point in a lane strictly between the two", """
            bar(2, 0, 1) 0
            bar(2, 20, 1) 1
            arrow(0, 1) 0
            bar(1, 4, 1) 2
            bar(3, 9, 1) 3
            arrow(2, 3) 1
            arrowOf(#, 6) 1 1
            count(5) 1
            move(3, 0, 9) 0
            count(5) 0
            move(3, 11, 9) 0
            count(5) 1
            move(2, 3, 4) 0
            count(5) 0
            """);
        Run.test("terms: no point in a lane of its own", """
            bar(0, 0, 2) 0
            bar(2, 20, 2) 1
            bar(2, 0, 3) 2
            arrow(0, 1) 0
            arrow(2, 1) 1
            set(0, 2) 0
            arrowOf(#, 2) 11 11
            count(5) 0
            set(0, 1) 2
            count(5) 0
            set(0, 0) 1
            count(5) 0
            """);
        Run.test("terms: no point in a lane of its own, the upper and the lower one, of either end", """
            bar(3, 0, 2) 0
            bar(3, 20, 2) 1
            bar(5, 20, 2) 2
            bar(1, 20, 2) 3
            set(0, 2) 0
            arrow(0, 1) 0
            arrow(0, 2) 1
            arrow(0, 3) 2
            arrowOf(#, 2) 11 11 11
            count(5) 0
            bar(5, 0, 2) 4
            bar(1, 0, 2) 5
            arrow(4, 1) 3
            arrow(5, 1) 4
            arrowOf(#, 2) 11 11 11 11 11
            count(5) 0
            bar(2, 0, 2) 6
            arrow(6, 2) 5
            arrowOf(5, 2) 11
            count(5) 1
            """);
        Run.test("terms: two points, one by each of the bends", """
            bar(1, 0, 1) 0
            bar(3, 20, 1) 1
            bar(0, 0, 1) 2
            bar(2, 15, 1) 3
            arrow(0, 1) 0
            arrow(2, 3) 1
            set(0, 2) 0
            arrowOf(#, 2) 10 8
            arrowOf(#, 6) 2 2
            count(5) 2
            """);
        Run.test("terms: no point with an arrow that is not drawn", """
            bar(2, 0, 1) 0
            bar(2, 20, 1) 1
            arrow(0, 1) 0
            bar(1, 4, 1) 2
            bar(3, 9, 1) 3
            arrow(2, 3) 1
            count(5) 1
            bar(2, 10, 1) 4
            arrowOf(0, 2) NONE
            arrowOf(#, 6) 0 0
            count(5) 0
            """);
        Run.test("terms: an arrow crosses several others", """
            bar(2, 0, 1) 0
            bar(2, 20, 1) 1
            bar(3, 0, 1) 2
            bar(3, 20, 1) 3
            arrow(0, 1) 0
            arrow(2, 3) 1
            bar(0, 4, 1) 4
            bar(6, 9, 1) 5
            arrow(4, 5) 2
            arrowOf(#, 6) 1 1 2
            count(5) 2
            """);
    }

    private static void crossingsAtEnds() {
        Run.test("terms: two arrows along one lane are crossed at a point each, in one place, too", """
            bar(2, 0, 1) 0
            bar(2, 20, 1) 1
            bar(4, 15, 1) 2
            bar(0, 0, 1) 3
            bar(3, 9, 1) 4
            set(0, 1) 0
            arrow(0, 1) 0
            arrow(0, 2) 1
            arrow(3, 4) 2
            arrowOf(#, 2) 20 15 9
            arrowOf(#, 6) 1 1 2
            count(5) 2
            """);
        Run.test("terms: a point needs the day ahead of the bend and the bend", """
            bar(2, 1, 2) 0
            bar(2, 12, 3) 1
            arrow(0, 1) 0
            bar(0, 0, 2) 2
            bar(4, 3, 2) 3
            arrow(2, 3) 1
            set(0, 1) 0
            arrowOf(1, 2) 3
            count(5) 0
            move(3, 4, 4) 0
            count(5) 1
            move(3, 4, 11) 0
            count(5) 1
            move(3, 4, 12) 0
            count(5) 0
            """);
        Run.test("terms: it goes along the one lane up to its bend, along the other one from there", """
            bar(2, 1, 2) 0
            bar(4, 14, 2) 1
            bar(2, 8, 1) 2
            bar(0, 0, 1) 3
            bar(6, 30, 1) 4
            set(0, 1) 0
            arrow(0, 1) 0
            arrow(3, 4) 1
            arrowOf(0, 2) 8
            for 3..3: move(4, 6, #) 0 | arrowOf(1, 2) # | count(5) 0
            for 4..7: move(4, 6, #) 0 | arrowOf(1, 2) # | count(5) 1
            for 8..8: move(4, 6, #) 0 | arrowOf(1, 2) # | count(5) 0
            for 9..13: move(4, 6, #) 0 | arrowOf(1, 2) # | count(5) 1
            for 14..14: move(4, 6, #) 0 | arrowOf(1, 2) # | count(5) 0
            """);
        Run.test("terms: a point on the other one's bend, if that stays in its lane", """
            bar(2, 0, 2) 0
            bar(2, 10, 2) 1
            arrow(0, 1) 0
            bar(0, 0, 2) 2
            bar(4, 10, 2) 3
            arrow(2, 3) 1
            arrowOf(#, 2) 2 2
            count(5) 0
            set(0, 2) 0
            arrowOf(#, 2) 6 6
            count(5) 1
            move(1, 3, 10) 0
            arrowOf(#, 2) 6 6
            count(5) 0
            """);
    }

    private static void calls() {
        Run.test("what it is: an object is good for 512 calls", """
            bar(0, 0, 1) 0
            bar(1, 9, 1) 1
            arrow(0, 1) 0
            for 0..252: slip(0, 1) 1 | undo() 3
            slip(0, 1) 1
            barOf(0, 1) 1
            bar(0, 0, 1) 2
            """);
    }
}
