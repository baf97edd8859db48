/** Promises 1 to 19 at their boundaries: arguments, the order of the checks, what an act answers. */
public final class ActsEdgesTest {
    private static final String THIRTY = "for 0..29: bar(0, #, 1) #\n";
    private static final String NINETY = "for 0..89: bar(0, 0, 1) # | takeBar(#) 0\n";
    private static final String FORTY = """
        for 4..13: arrow(0, #) #-4
        for 4..13: arrow(1, #) #+6
        for 4..13: arrow(2, #) #+16
        for 4..13: arrow(3, #) #+26
        """;

    public static void main(String[] args) {
        newObject();
        bar();
        arrow();
        addAll();
        takeBar();
        takeArrow();
        move();
        swap();
        pack();
        slip();
        pull();
        width();
        set();
        type();
        clearText();
        fault();
        undo();
        keep();
        restore();
        Run.finish();
    }

    private static void newObject() {
        Run.test("promise 1: a new object is empty", """
            count(#) 0 0 0 0 0 0 0 0 0 0 0 0 0 0 0 0 60
            longest() 0
            share() 0
            fault() 0
            barOf(0, 0) UNKNOWN
            arrowOf(0, 0) UNKNOWN
            reason(0, 0) UNKNOWN
            latest(0) UNKNOWN
            ifSlipped(0, 1) UNKNOWN
            bestLane(0) UNKNOWN
            bestSwap(#) NONE NONE NONE NONE
            strip(0, #) NONE NONE NONE NONE NONE
            for 0..11: cell(#, 0) NONE | cell(#, 199) NONE
            """);
        Run.test("promise 1: acts on a new object", """
            takeBar(0) UNKNOWN
            takeArrow(0) UNKNOWN
            arrow(0, 1) UNKNOWN
            move(0, 0, 0) UNKNOWN
            swap(0, 1) NONE
            pack() NONE
            slip(0, 1) UNKNOWN
            pull(0) UNKNOWN
            addAll() -100
            clearText() 0
            undo() NONE
            restore() NONE
            count(13) 0
            keep() 0
            restore() 0
            count(13) 1
            """);
    }

    private static void bar() {
        Run.test("promise 2: the least and the greatest arguments that are taken", """
            bar(0, 0, 1) 0
            bar(11, 0, 30) 1
            bar(0, 199, 1) 2
            bar(11, 170, 30) 3
            bar(0, 1, 30) 4
            bar(0, 198, 1) 5
            count(0) 6
            """);
        Run.test("promise 2: UNKNOWN ahead of all other errors", THIRTY, """
            bar(12, 0, 1) UNKNOWN
            bar(-1, 0, 1) UNKNOWN
            bar(12, 200, 1) UNKNOWN
            bar(12, -1, 31) UNKNOWN
            bar(-1, 199, 30) UNKNOWN
            bar(MAX, MAX, MAX) UNKNOWN
            bar(MIN, MIN, MIN) UNKNOWN
            """);
        Run.test("promise 2: BAD_VALUE ahead of NOT_POSSIBLE and FULL", THIRTY, """
            bar(0, 0, 0) BAD_VALUE
            bar(0, 0, 31) BAD_VALUE
            bar(0, -1, 2) BAD_VALUE
            bar(0, 200, 1) BAD_VALUE
            bar(1, 199, 2) BAD_VALUE
            bar(0, 5, MAX) BAD_VALUE
            bar(0, MAX, MAX) BAD_VALUE
            bar(0, MAX, 1) BAD_VALUE
            bar(0, MIN, MIN) BAD_VALUE
            """);
        Run.test("promise 2: NOT_POSSIBLE ahead of FULL, 30 are there", THIRTY, """
            bar(0, 29, 1) NOT_POSSIBLE
            bar(0, 0, 30) NOT_POSSIBLE
            bar(0, 30, 1) FULL
            bar(11, 0, 1) FULL
            """);
        Run.test("promise 2: NOT_POSSIBLE ahead of FULL, 90 came", """
            for 0..88: bar(0, 0, 1) # | takeBar(#) 0
            bar(0, 0, 1) 89
            bar(0, 0, 1) NOT_POSSIBLE
            bar(0, 1, 1) FULL
            """);
        Run.test("promise 2: FULL with the empty chart, if 90 came", NINETY, """
            count(0) 0
            bar(0, 0, 1) FULL
            bar(12, 0, 1) UNKNOWN
            bar(0, 0, 0) BAD_VALUE
            """);
        Run.test("promise 2: a day that became free", """
            bar(0, 5, 3) 0
            bar(0, 7, 1) NOT_POSSIBLE
            takeBar(0) 0
            bar(0, 7, 1) 1
            move(1, 0, 8) 0
            bar(0, 7, 1) 2
            """);
    }

    private static void arrow() {
        String three = "for 0..2: bar(#, #+5, 1) #\n";
        Run.test("promise 3: UNKNOWN ahead of all other errors", three, """
            arrow(-1, 0) UNKNOWN
            arrow(0, -1) UNKNOWN
            arrow(3, 0) UNKNOWN
            arrow(0, 3) UNKNOWN
            arrow(3, 3) UNKNOWN
            arrow(-1, -1) UNKNOWN
            arrow(MIN, MAX) UNKNOWN
            arrow(0, 2) 0
            """);
        Run.test("promise 3: a bar that went is no bar", three, """
            takeBar(1) 0
            arrow(0, 1) UNKNOWN
            arrow(1, 2) UNKNOWN
            arrow(1, 1) UNKNOWN
            arrow(2, 0) 0
            arrow(0, 2) NOT_POSSIBLE
            undo() 3
            undo() 2
            arrow(0, 1) 0
            """);
        Run.test("promise 3: NOT_POSSIBLE ahead of FULL, 40 are there", THIRTY, FORTY, """
            arrow(0, 30) UNKNOWN
            arrow(7, 7) NOT_POSSIBLE
            arrow(0, 4) NOT_POSSIBLE
            arrow(3, 13) NOT_POSSIBLE
            arrow(4, 0) NOT_POSSIBLE
            arrow(14, 0) FULL
            arrow(0, 1) FULL
            """);
        Run.test("promise 3: NOT_POSSIBLE ahead of FULL, 200 came", """
            bar(0, 0, 1) 0
            bar(0, 1, 1) 1
            for 0..198: arrow(0, 1) # | takeArrow(#) 1
            arrow(0, 1) 199
            arrow(0, 1) NOT_POSSIBLE
            arrow(1, 0) NOT_POSSIBLE
            arrow(1, 1) NOT_POSSIBLE
            arrow(1, 2) UNKNOWN
            takeArrow(199) 1
            arrow(1, 0) FULL
            arrow(0, 1) FULL
            """);
        Run.test("promise 3: the ring opens when a bar goes", three, """
            arrow(0, 1) 0
            arrow(1, 2) 1
            arrow(2, 0) NOT_POSSIBLE
            takeBar(1) 2
            arrow(2, 0) 2
            arrow(0, 2) NOT_POSSIBLE
            """);
    }

    private static void addAll() {
        Run.test("promise 4: the fault is told ahead of all errors of parts", """
            bar(0, 0, 1) 0
            text 0@0+1;0>0;9>9;0@199+30;x
            addAll() -123
            text 0@0+1;12@0+1
            addAll() -108
            text 0@0+1;0@0+1;
            addAll() -112
            clearText() 12
            addAll() -100
            """);
        Run.test("promise 4: the first part that has an error tells it", """
            bar(0, 0, 1) 0
            text 0@0+1;9>9
            addAll() NOT_POSSIBLE
            text 9>9;0@0+1
            addAll() UNKNOWN
            text 1@199+2;9>9
            addAll() BAD_VALUE
            text 1@0+1;0>1;1>0;9>9
            addAll() NOT_POSSIBLE
            text 1@0+1;0>1;0>2
            addAll() UNKNOWN
            count(0) 1
            count(13) 1
            """);
        Run.test("promise 4: its turn comes, so a part may name what came ahead of it", """
            text 0@0+1;1@5+1;0>1
            addAll() 3
            text 2>3;2@0+1;3@0+1
            addAll() UNKNOWN
            text 2@0+1;3@0+1;2>3
            addAll() 3
            text 4@0+1;4@0+1
            addAll() NOT_POSSIBLE
            arrowOf(#, 0) 0 2 UNKNOWN
            """);
        Run.test("promise 4: the errors of bar() at its bounds", """
            text 0@199+2
            addAll() BAD_VALUE
            text 0@171+30
            addAll() BAD_VALUE
            text 0@199+1;11@170+30
            addAll() 2
            text 11@169+2
            addAll() NOT_POSSIBLE
            text 11@169+1
            addAll() 1
            """);
        Run.test("promise 4: BAD_VALUE and NOT_POSSIBLE ahead of FULL", THIRTY, """
            text 0@199+2
            addAll() BAD_VALUE
            text 0@0+1
            addAll() NOT_POSSIBLE
            text 1@0+1
            addAll() FULL
            text 0>1;1@0+1
            addAll() FULL
            text 0>1;0>2
            addAll() 2
            """);
        Run.test("promise 4: the last bar is 89", """
            for 0..88: bar(0, 0, 1) # | takeBar(#) 0
            text 0@0+1;89>89
            addAll() NOT_POSSIBLE
            text 0@0+1;88>89
            addAll() UNKNOWN
            text 0@0+1
            addAll() 1
            barOf(89, 0) 0
            """);
        Run.test("promise 4: one act, and the text stays", """
            text 0@0+1;1@5+1;0>1
            addAll() 3
            count(13) 1
            count(14) 15
            addAll() NOT_POSSIBLE
            undo() 0
            count(#) 0 0 0 0 0 0 0 0 0 0 0 0 0 0 15
            addAll() 3
            count(10) 2
            count(11) 1
            """);
    }

    private static void takeBar() {
        String three = "for 0..2: bar(#, #+5, 1) #\narrow(0, 1) 0\narrow(1, 2) 1\narrow(0, 2) 2\n";
        Run.test("promise 5: UNKNOWN", three, """
            takeBar(-1) UNKNOWN
            takeBar(3) UNKNOWN
            takeBar(MIN) UNKNOWN
            takeBar(MAX) UNKNOWN
            takeBar(0) 2
            takeBar(0) UNKNOWN
            count(1) 1
            """);
        Run.test("promise 5: the last one, until none is there", three, """
            takeBar(2) 2
            takeBar(1) 1
            takeBar(0) 0
            takeBar(0) UNKNOWN
            count(0) 0
            count(1) 0
            undo() 3
            undo() 2
            undo() 1
            count(1) 3
            arrowOf(#, 0) 0 1 0
            arrowOf(#, 1) 1 2 2
            """);
        Run.test("promise 5: the first one, others keep their numbers", three, """
            takeBar(0) 2
            barOf(#, 1) UNKNOWN 6 7
            arrowOf(#, 0) UNKNOWN 1 UNKNOWN
            arrowOf(#, 1) UNKNOWN 2 UNKNOWN
            """);
        Run.test("promise 5: all 40 arrows but one go with ten bars", THIRTY, FORTY, """
            for 4..12: takeBar(#) 4
            count(1) 4
            takeBar(13) 4
            count(1) 0
            takeBar(14) 0
            """);
        Run.test("promise 5: a bar without arrows, 40 are there", THIRTY, FORTY, """
            takeBar(29) 0
            takeBar(14) 0
            count(1) 40
            arrowOf(39, 1) 13
            barOf(28, 1) 28
            """);
        Run.test("promise 5: 29 arrows go with a bar", THIRTY, """
            for 1..29: arrow(0, #) #-1
            takeBar(0) 29
            count(1) 0
            count(0) 29
            """);
    }

    private static void takeArrow() {
        Run.test("promise 6: UNKNOWN", """
            bar(0, 0, 1) 0
            bar(1, 0, 1) 1
            takeArrow(0) UNKNOWN
            arrow(1, 0) 0
            takeArrow(-1) UNKNOWN
            takeArrow(1) UNKNOWN
            takeArrow(MIN) UNKNOWN
            takeArrow(MAX) UNKNOWN
            takeArrow(0) 0
            takeArrow(0) UNKNOWN
            """);
        Run.test("promise 6: the first, the last and one between of 40", THIRTY, FORTY, """
            takeArrow(0) 4
            takeArrow(39) 13
            takeArrow(20) 4
            takeArrow(20) UNKNOWN
            arrowOf(1, 1) 5
            arrowOf(38, 1) 12
            arrowOf(21, 0) 2
            count(1) 37
            undo() 3
            arrowOf(20, 1) 4
            """);
        Run.test("promise 6: number 199", """
            bar(0, 0, 1) 0
            bar(0, 1, 1) 1
            for 0..198: arrow(0, 1) # | takeArrow(#) 1
            arrow(0, 1) 199
            takeArrow(198) UNKNOWN
            takeArrow(200) UNKNOWN
            takeArrow(199) 1
            """);
    }

    private static void move() {
        String two = "bar(0, 0, 30) 0\nbar(1, 0, 30) 1\n";
        Run.test("promise 7: UNKNOWN ahead of all other errors", two, """
            move(-1, 0, 0) UNKNOWN
            move(2, 0, 0) UNKNOWN
            move(2, 12, 200) UNKNOWN
            move(0, 12, 200) UNKNOWN
            move(0, -1, -1) UNKNOWN
            move(2, 1, 200) UNKNOWN
            move(MIN, MIN, MIN) UNKNOWN
            move(MAX, 0, 0) UNKNOWN
            move(0, MAX, 0) UNKNOWN
            """);
        Run.test("promise 7: BAD_VALUE, also if its end would be above 200", two, """
            move(0, 0, -1) BAD_VALUE
            move(0, 0, 171) BAD_VALUE
            move(0, 0, 199) BAD_VALUE
            move(0, 0, 200) BAD_VALUE
            move(0, 0, MAX) BAD_VALUE
            move(0, 0, MIN) BAD_VALUE
            move(0, 0, 170) 0
            move(0, 0, 171) BAD_VALUE
            """);
        Run.test("promise 7: BAD_VALUE ahead of NOT_POSSIBLE", two, """
            bar(2, 180, 20) 2
            move(0, 2, 180) BAD_VALUE
            move(0, 2, 171) BAD_VALUE
            move(0, 2, 170) NOT_POSSIBLE
            move(0, 2, 151) NOT_POSSIBLE
            move(0, 2, 150) 0
            """);
        Run.test("promise 7: NONE if it is there already, and not if one of both differs", two, """
            move(0, 0, 0) NONE
            count(13) 2
            move(0, 0, 1) 0
            move(0, 2, 1) 0
            move(0, 2, 1) NONE
            move(0, 2, 0) 0
            """);
        Run.test("promise 7: its own days are no other bar's", """
            bar(0, 10, 5) 0
            move(0, 0, 11) 0
            move(0, 0, 7) 0
            bar(0, 12, 1) 1
            move(0, 0, 8) NOT_POSSIBLE
            move(0, 0, 13) 0
            move(1, 0, 11) 0
            move(1, 0, 13) NOT_POSSIBLE
            """);
        Run.test("promise 7: how many arrows are not drawn then", """
            bar(0, 5, 2) 0
            bar(1, 10, 2) 1
            bar(2, 10, 2) 2
            arrow(0, 1) 0
            arrow(0, 2) 1
            move(0, 0, 8) 0
            move(0, 0, 9) 2
            move(1, 1, 11) 1
            move(2, 2, 11) 0
            move(0, 5, 0) 0
            """);
    }

    private static void swap() {
        Run.test("promise 8: UNKNOWN ahead of NONE", """
            swap(-1, -1) UNKNOWN
            swap(12, 12) UNKNOWN
            swap(0, 12) UNKNOWN
            swap(12, 0) UNKNOWN
            swap(0, -1) UNKNOWN
            swap(-1, 0) UNKNOWN
            swap(MIN, MIN) UNKNOWN
            swap(11, MAX) UNKNOWN
            """);
        Run.test("promise 8: NONE if both are the same, or both have no bars", """
            bar(3, 0, 1) 0
            swap(3, 3) NONE
            swap(0, 0) NONE
            swap(0, 11) NONE
            swap(11, 11) NONE
            count(13) 1
            swap(3, 0) 0
            swap(3, 11) NONE
            swap(3, 0) 0
            swap(0, 11) NONE
            swap(11, 3) 0
            barOf(0, 0) 11
            """);
        Run.test("promise 8: the same days in both lanes", """
            bar(0, 0, 30) 0
            bar(11, 0, 30) 1
            bar(11, 30, 1) 2
            swap(0, 11) 0
            barOf(#, 0) 11 0 0
            swap(0, 11) 0
            barOf(#, 0) 0 11 11
            """);
        Run.test("promise 8: thirty bars in a lane", THIRTY, """
            swap(0, 11) 0
            for 0..29: barOf(#, 0) 11
            swap(5, 11) 0
            for 0..29: barOf(#, 0) 5
            """);
        Run.test("promise 8: how many arrows are not drawn then", """
            bar(0, 0, 2) 0
            bar(1, 0, 30) 1
            bar(2, 6, 2) 2
            arrow(0, 2) 0
            swap(0, 3) 0
            swap(0, 3) 1
            swap(1, 2) 0
            """);
    }

    private static void pack() {
        Run.test("promise 9: NONE for the empty chart, and if all are where they would come", """
            pack() NONE
            bar(0, 5, 3) 0
            pack() NONE
            bar(1, 7, 3) 1
            pack() NONE
            bar(2, 8, 1) 2
            pack() 2
            barOf(#, 0) 0 1 0
            pack() NONE
            count(13) 4
            """);
        Run.test("promise 9: a day in common, and none", """
            bar(4, 0, 3) 0
            bar(5, 3, 3) 1
            pack() 1
            barOf(#, 0) 0 0
            undo() 2
            move(1, 5, 2) 0
            pack() 2
            barOf(#, 0) 0 1
            """);
        Run.test("promise 9: by first days, of several by numbers", """
            bar(7, 5, 2) 0
            bar(6, 5, 2) 1
            bar(5, 4, 2) 2
            bar(4, 5, 1) 3
            pack() 4
            barOf(#, 0) 1 2 0 3
            """);
        Run.test("promise 9: of several by numbers, also if one came back to an earlier day", """
            bar(7, 9, 2) 0
            bar(6, 5, 2) 1
            move(0, 7, 5) 0
            pack() 2
            barOf(#, 0) 0 1
            """);
        Run.test("promise 9: twelve lanes suffice", """
            for 0..11: bar(11-#, 5, 30) #
            pack() 12
            for 0..11: barOf(#, 0) #
            for 0..11: bar(11-#, 35, 1) #+12
            pack() 12
            for 0..11: barOf(#+12, 0) #
            pack() NONE
            """);
        Run.test("promise 9: thirty bars come into one lane", """
            for 0..29: bar(11, 29-#, 1) #
            pack() 1
            for 0..29: barOf(#, 0) 0
            count(2) 1
            """);
    }

    private static void slip() {
        Run.test("promise 10: UNKNOWN ahead of BAD_VALUE", """
            bar(0, 0, 1) 0
            slip(-1, 0) UNKNOWN
            slip(1, 0) UNKNOWN
            slip(1, 31) UNKNOWN
            slip(1, 1) UNKNOWN
            slip(MIN, MIN) UNKNOWN
            slip(MAX, MAX) UNKNOWN
            """);
        Run.test("promise 10: 1 to 30 days", """
            bar(0, 0, 1) 0
            slip(0, 0) BAD_VALUE
            slip(0, 31) BAD_VALUE
            slip(0, -1) BAD_VALUE
            slip(0, MIN) BAD_VALUE
            slip(0, MAX) BAD_VALUE
            slip(0, 1) 1
            barOf(0, 1) 1
            slip(0, 30) 1
            barOf(0, 1) 31
            """);
        Run.test("promise 10: BAD_VALUE ahead of NOT_POSSIBLE", """
            bar(0, 199, 1) 0
            slip(0, 0) BAD_VALUE
            slip(0, 31) BAD_VALUE
            slip(0, 30) NOT_POSSIBLE
            slip(0, 1) NOT_POSSIBLE
            """);
        Run.test("promise 10: NOT_POSSIBLE if the end of any bar would be above 200", """
            bar(0, 150, 10) 0
            bar(1, 160, 30) 1
            arrow(0, 1) 0
            slip(0, 11) NOT_POSSIBLE
            barOf(#, 1) 150 160
            count(12) 0
            slip(0, 10) 2
            barOf(#, 3) 170 200
            count(12) 20
            slip(0, 1) NOT_POSSIBLE
            slip(1, 1) NOT_POSSIBLE
            """);
        Run.test("promise 10: number 0 is behind the others", """
            bar(0, 10, 2) 0
            bar(0, 5, 2) 1
            bar(1, 0, 5) 2
            slip(1, 4) 2
            barOf(#, 1) 11 9 0
            arrow(2, 0) 0
            slip(2, 7) 2
            barOf(#, 1) 12 9 7
            slip(0, 1) 1
            """);
        Run.test("promise 10: how many have another first day", """
            bar(0, 0, 5) 0
            bar(0, 10, 5) 1
            bar(0, 15, 5) 2
            slip(0, 5) 1
            slip(0, 1) 3
            barOf(#, 1) 6 11 16
            count(12) 8
            slip(2, 1) 1
            slip(1, 1) 1
            slip(1, 1) 2
            count(12) 12
            """);
    }

    private static void pull() {
        Run.test("promise 11: UNKNOWN", """
            pull(0) UNKNOWN
            bar(0, 5, 1) 0
            pull(-1) UNKNOWN
            pull(1) UNKNOWN
            pull(MIN) UNKNOWN
            pull(MAX) UNKNOWN
            pull(0) 5
            """);
        Run.test("promise 11: NONE if it stays, one day if it can be that", """
            bar(0, 0, 3) 0
            bar(0, 4, 2) 1
            pull(0) NONE
            pull(1) 1
            pull(1) NONE
            barOf(#, 1) 0 3
            bar(1, 1, 1) 2
            pull(2) 1
            pull(2) NONE
            """);
        Run.test("promise 11: not less than the greatest of the ends", """
            bar(0, 0, 3) 0
            bar(1, 0, 7) 1
            bar(2, 0, 5) 2
            bar(0, 199, 1) 3
            arrow(1, 3) 0
            arrow(2, 3) 1
            pull(3) 192
            pull(3) NONE
            takeArrow(0) 3
            pull(3) 2
            takeArrow(1) 3
            pull(3) 2
            takeBar(0) 0
            pull(3) 3
            """);
        Run.test("promise 11: thirty bars, and number 0 is the last one of them", """
            bar(0, 199, 1) 0
            for 0..28: bar(0, #, 1) #+1
            pull(0) 170
            pull(0) NONE
            for 1..29: pull(#) NONE
            takeBar(1) 0
            pull(0) NONE
            pull(2) 1
            """);
        Run.test("promise 11: it comes from the last day to the first one", """
            bar(0, 199, 1) 0
            pull(0) 199
            barOf(0, 1) 0
            undo() 1
            barOf(0, 1) 199
            """);
        Run.test("promise 11: a late arrow does not push, one that is not late does", """
            bar(0, 0, 5) 0
            bar(1, 4, 1) 1
            arrow(0, 1) 0
            pull(1) 4
            move(1, 1, 5) 0
            pull(1) NONE
            move(1, 1, 6) 0
            pull(1) 1
            """);
    }

    private static void width() {
        Run.test("promise 12: from is 0 to 199", """
            width(-1, 5, 1) BAD_VALUE
            width(200, 200, 1) BAD_VALUE
            width(200, 199, 1) BAD_VALUE
            width(MIN, 0, 1) BAD_VALUE
            width(MAX, MAX, 1) BAD_VALUE
            width(0, 0, 1) 1
            width(199, 199, 1) 1
            """);
        Run.test("promise 12: to is from to 199", """
            width(5, 4, 1) BAD_VALUE
            width(5, 200, 1) BAD_VALUE
            width(5, -1, 1) BAD_VALUE
            width(5, MIN, 1) BAD_VALUE
            width(5, MAX, 1) BAD_VALUE
            width(199, 198, 1) BAD_VALUE
            width(0, -1, 1) BAD_VALUE
            width(5, 5, 1) 1
            width(5, 199, 1) 194
            width(0, 199, 1) 5
            """);
        Run.test("promise 12: a width is 1 to 9", """
            width(0, 0, 0) BAD_VALUE
            width(0, 0, -1) BAD_VALUE
            width(0, 0, 10) BAD_VALUE
            width(0, 0, 1) 1
            width(0, 0, 9) 1
            width(0, 0, 10) BAD_VALUE
            width(0, 0, 9) NONE
            """);
        Run.test("promise 12: BAD_VALUE ahead of NONE", """
            width(0, 200, 2) BAD_VALUE
            width(-1, 0, 2) BAD_VALUE
            width(3, 2, 2) BAD_VALUE
            width(0, 199, 2) NONE
            """);
        Run.test("promise 12: how many had another one", """
            width(10, 19, 3) 10
            width(9, 20, 3) 2
            width(9, 20, 3) NONE
            width(0, 199, 3) 188
            width(100, 100, 2) 1
            width(0, 199, 3) 1
            count(13) 4
            undo() 3
            width(100, 100, 2) NONE
            """);
    }

    private static void set() {
        Run.test("promise 13: BAD_VALUE (which or value)", """
            set(-1, 0) BAD_VALUE
            set(2, 0) BAD_VALUE
            set(2, 60) BAD_VALUE
            set(-1, 60) BAD_VALUE
            set(0, -1) BAD_VALUE
            set(0, 3) BAD_VALUE
            set(0, 10) BAD_VALUE
            set(0, 60) BAD_VALUE
            set(1, 9) BAD_VALUE
            set(1, 1000) BAD_VALUE
            set(1, 0) BAD_VALUE
            set(MAX, MAX) BAD_VALUE
            set(MIN, MIN) BAD_VALUE
            count(13) 0
            """);
        Run.test("promise 13: the previous one, NONE if it is so already", """
            set(0, 0) NONE
            set(1, 60) NONE
            set(0, 2) 0
            set(0, 2) NONE
            set(0, 1) 2
            set(1, 999) 60
            set(1, 10) 999
            set(1, 10) NONE
            set(0, 0) 1
            count(13) 4
            undo() 3
            set(0, 1) NONE
            """);
    }

    private static void type() {
        Run.test("promise 14: the length then, FULL with 60", """
            for 1..60: type(48) #
            type(48) FULL
            type(0) FULL
            type(65535) FULL
            count(14) 60
            clearText() 60
            type(48) 1
            """);
        Run.test("promise 14: any character", """
            type(0) 1
            type(127) 2
            type(128) 3
            type(255) 4
            type(256) 5
            type(32768) 6
            type(65535) 7
            count(14) 7
            fault() 0
            """);
    }

    private static void clearText() {
        Run.test("promise 15: the length that it had, 0, 1 and 60", """
            clearText() 0
            type('x') 1
            clearText() 1
            clearText() 0
            for 1..60: type('x') #
            clearText() 60
            count(14) 0
            type('x') 1
            """);
        Run.test("promise 15: nothing of the old text stays", """
            text 0@0+1;1@5+12
            clearText() 12
            fault() 0
            addAll() -100
            text 0@0+1
            addAll() 1
            count(0) 1
            """);
    }

    private static void fault() {
        Run.test("promise 16: the index, the length, NONE", """
            fault() 0
            type('1') 1
            fault() 1
            type('1') 2
            fault() 2
            type('@') 3
            fault() 3
            type('1') 4
            fault() 4
            type('9') 5
            fault() 5
            type('9') 6
            fault() 6
            type('+') 7
            fault() 7
            type('3') 8
            fault() NONE
            type('0') 9
            fault() NONE
            type(';') 10
            fault() 10
            type('8') 11
            fault() 11
            type('9') 12
            fault() 12
            type('>') 13
            fault() 13
            type('8') 14
            fault() NONE
            type('9') 15
            fault() NONE
            type('0') 16
            fault() 15
            type(';') 17
            fault() 15
            """);
        Run.test("promise 16: it tells the text alone, not whether bars are there", """
            text 0>0;89>89;0@199+30;0@0+1;0@0+1
            fault() NONE
            addAll() UNKNOWN
            fault() NONE
            """);
    }

    private static void undo() {
        Run.test("promise 17: how many states are left, NONE with the empty history", """
            undo() NONE
            bar(0, 0, 1) 0
            undo() 0
            undo() NONE
            for 0..3: bar(0, #, 1) #
            for 0..3: undo() 3-#
            undo() NONE
            for 0..4: bar(0, #, 1) #
            for 0..3: undo() 3-#
            undo() NONE
            count(0) 1
            """);
        Run.test("promise 17: it is no act itself", """
            bar(0, 0, 1) 0
            bar(0, 1, 1) 1
            undo() 1
            count(13) 1
            undo() 0
            undo() NONE
            count(0) 0
            """);
    }

    private static void keep() {
        Run.test("promise 18: how many bars, 0, 1 and 30", """
            keep() 0
            bar(0, 0, 1) 0
            keep() 1
            for 1..29: bar(0, #, 1) #
            keep() 30
            count(13) 4
            """);
        Run.test("promise 18: it is no act", """
            keep() 0
            count(13) 0
            undo() NONE
            """);
        Run.test("promise 18: the snapshot is of the state then", """
            bar(0, 0, 1) 0
            keep() 1
            move(0, 5, 9) 0
            width(0, 0, 9) 1
            restore() 1
            barOf(0, #) 0 0 1 1 0 2
            """);
    }

    private static void restore() {
        Run.test("promise 19: NONE without a snapshot", """
            restore() NONE
            count(13) 0
            bar(0, 0, 1) 0
            restore() NONE
            count(13) 1
            """);
        Run.test("promise 19: how many bars there are then, 0, 1 and 30", """
            keep() 0
            bar(0, 0, 1) 0
            restore() 0
            undo() 1
            keep() 1
            takeBar(0) 0
            restore() 1
            for 1..29: bar(0, #, 1) #
            keep() 30
            restore() 30
            undo() 3
            """);
        Run.test("promise 19: an act, also if all is as in the snapshot", """
            keep() 0
            restore() 0
            count(13) 1
            restore() 0
            count(13) 2
            undo() 1
            undo() 0
            undo() NONE
            restore() 0
            """);
    }
}
