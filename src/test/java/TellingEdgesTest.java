/** Promises 20 to 31 at their boundaries: what is told, and what would be. */
public final class TellingEdgesTest {
    private static final String THIRTY = "for 0..29: bar(0, #, 1) #\n";
    private static final String FORTY = """
        for 4..13: arrow(0, #) #-4
        for 4..13: arrow(1, #) #+6
        for 4..13: arrow(2, #) #+16
        for 4..13: arrow(3, #) #+26
        """;

    public static void main(String[] args) {
        barOf();
        barOfStrips();
        barOfNext();
        arrowOf();
        arrowOfStrips();
        reason();
        cell();
        strip();
        count();
        latest();
        longest();
        share();
        ifSlipped();
        bestSwap();
        bestSwapWithTheLastLane();
        bestSwapBeforePoints();
        bestLane();
        Run.finish();
    }

    private static void barOf() {
        Run.test("promise 20: UNKNOWN ahead of BAD_VALUE", """
            bar(0, 0, 1) 0
            bar(0, 1, 1) 1
            takeBar(0) 0
            barOf(0, 0) UNKNOWN
            barOf(0, 12) UNKNOWN
            barOf(2, 0) UNKNOWN
            barOf(-1, -1) UNKNOWN
            barOf(MIN, MIN) UNKNOWN
            barOf(MAX, MAX) UNKNOWN
            barOf(1, 0) 0
            """);
        Run.test("promise 20: what is 0 to 11", """
            bar(0, 0, 1) 0
            barOf(0, -1) BAD_VALUE
            barOf(0, 12) BAD_VALUE
            barOf(0, MIN) BAD_VALUE
            barOf(0, MAX) BAD_VALUE
            barOf(0, #) 0 0 1 1 0 2 0 0 0 0 1 NONE BAD_VALUE
            """);
        Run.test("promise 20: the last bar there can be, at the last day", """
            for 0..88: bar(0, 0, 1) # | takeBar(#) 0
            bar(11, 199, 1) 89
            barOf(89, #) 11 199 1 200 398 2 0 0 0 6 1 NONE BAD_VALUE
            barOf(90, 0) UNKNOWN
            barOf(88, 0) UNKNOWN
            """);
        Run.test("promise 20: arrows from it and to it, late ones, too", THIRTY, FORTY, """
            barOf(0, 7) 10
            barOf(0, 8) 0
            barOf(3, 7) 10
            barOf(4, 7) 0
            barOf(4, 8) 4
            barOf(13, 8) 4
            barOf(14, 8) 0
            move(0, 0, 150) *
            barOf(0, 7) 10
            takeArrow(0) 4
            barOf(0, 7) 9
            barOf(4, 8) 3
            """);
        Run.test("promise 20: 29 arrows from a bar, and to a bar", THIRTY, """
            for 1..29: arrow(0, #) #-1
            barOf(0, 7) 29
            takeBar(0) 29
            bar(0, 0, 1) 30
            for 1..11: arrow(#, 29) #+28
            barOf(29, 8) 11
            """);
        Run.test("promise 20: the width of all its days together", """
            bar(0, 170, 30) 0
            barOf(0, 5) 60
            width(169, 169, 9) 1
            barOf(0, 5) 60
            width(170, 170, 9) 1
            barOf(0, 5) 67
            width(199, 199, 1) 1
            barOf(0, 5) 66
            move(0, 0, 0) 0
            width(30, 30, 9) 1
            barOf(0, 5) 60
            width(29, 29, 9) 1
            barOf(0, 5) 67
            """);
    }

    private static void barOfStrips() {
        Run.test("promise 20: the strip of its first day, and in how many it is", """
            set(1, 10) 60
            bar(0, 0, 5) 0
            barOf(0, 9) 0
            barOf(0, 10) 1
            move(0, 0, 1) 0
            barOf(0, 9) 0
            barOf(0, 10) 2
            move(0, 0, 4) 0
            barOf(0, 9) 0
            barOf(0, 10) 2
            move(0, 0, 5) 0
            barOf(0, 9) 1
            barOf(0, 10) 1
            move(0, 0, 195) 0
            barOf(0, 9) 39
            barOf(0, 10) 1
            """);
        Run.test("promise 20: in how many strips, with a chart that goes on", """
            set(1, 10) 60
            bar(5, 199, 1) 0
            bar(0, 0, 5) 1
            barOf(1, 10) 1
            move(1, 0, 1) 0
            barOf(1, 10) 2
            move(1, 0, 5) 0
            barOf(1, 9) 1
            barOf(1, 10) 1
            bar(1, 4, 1) 2
            barOf(2, 10) 1
            bar(2, 4, 2) 3
            barOf(3, 10) 2
            bar(3, 4, 7) 4
            barOf(4, 10) 3
            """);
        Run.test("promise 20: in 30 strips", """
            bar(0, 170, 30) 0
            width(0, 199, 9) 200
            set(1, 10) 60
            barOf(0, 9) 170
            barOf(0, 10) 30
            width(199, 199, 1) 1
            barOf(0, 10) 29
            """);
    }

    private static void barOfNext() {
        Run.test("promise 20: the bar that is next behind it in its lane", """
            bar(0, 199, 1) 0
            bar(0, 0, 1) 1
            bar(0, 100, 1) 2
            bar(1, 50, 1) 3
            bar(0, 1, 1) 4
            barOf(0, 11) NONE
            barOf(1, 11) 4
            barOf(4, 11) 2
            barOf(2, 11) 0
            barOf(3, 11) NONE
            takeBar(4) 0
            barOf(1, 11) 2
            move(3, 0, 50) 0
            barOf(1, 11) 3
            barOf(3, 11) 2
            """);
        Run.test("promise 20: the bar that is next is number 0", """
            bar(0, 10, 1) 0
            bar(0, 0, 1) 1
            bar(0, 20, 1) 2
            bar(0, 30, 1) 3
            barOf(1, 11) 0
            barOf(0, 11) 2
            barOf(2, 11) 3
            """);
        Run.test("promise 20: the next of 30 bars", THIRTY, """
            for 0..28: barOf(#, 11) #+1
            barOf(29, 11) NONE
            """);
        Run.test("promise 20: NONE is for what 11 alone, and only if the bar is there", """
            barOf(0, 11) UNKNOWN
            bar(0, 0, 1) 0
            barOf(0, 11) NONE
            barOf(0, 12) BAD_VALUE
            """);
    }

    private static void arrowOf() {
        Run.test("promise 21: UNKNOWN ahead of BAD_VALUE", """
            arrowOf(0, 8) UNKNOWN
            bar(0, 0, 1) 0
            bar(1, 5, 1) 1
            arrow(0, 1) 0
            arrowOf(-1, 0) UNKNOWN
            arrowOf(1, 0) UNKNOWN
            arrowOf(1, 8) UNKNOWN
            arrowOf(MIN, MIN) UNKNOWN
            arrowOf(MAX, MAX) UNKNOWN
            takeArrow(0) 1
            arrowOf(0, 0) UNKNOWN
            arrowOf(0, 8) UNKNOWN
            """);
        Run.test("promise 21: what is 0 to 7", """
            bar(0, 0, 1) 0
            bar(1, 5, 1) 1
            arrow(0, 1) 0
            arrowOf(0, -1) BAD_VALUE
            arrowOf(0, 8) BAD_VALUE
            arrowOf(0, MIN) BAD_VALUE
            arrowOf(0, MAX) BAD_VALUE
            arrowOf(0, #) 0 1 1 0 5 8 0 0 BAD_VALUE
            """);
        Run.test("promise 21: number 199", """
            bar(0, 0, 1) 0
            bar(0, 1, 1) 1
            for 0..198: arrow(0, 1) # | takeArrow(#) 1
            arrow(0, 1) 199
            arrowOf(199, #) 0 1 1 0 1 0 0 0 BAD_VALUE
            arrowOf(200, 0) UNKNOWN
            """);
        Run.test("promise 21: the fortieth arrow", THIRTY, FORTY, """
            arrowOf(39, #) 3 13 NONE 0 0 NONE 0 NONE BAD_VALUE
            move(13, 1, 30) *
            arrowOf(39, #) 3 13 4 0 1 52 0 1 BAD_VALUE
            arrowOf(40, 0) UNKNOWN
            """);
        Run.test("promise 21: the width along which it goes, of no day, one day and all", """
            bar(0, 0, 1) 0
            bar(1, 1, 1) 1
            arrow(0, 1) 0
            arrowOf(0, 5) 0
            move(1, 1, 2) 0
            arrowOf(0, 5) 2
            width(0, 0, 9) 1
            width(2, 2, 9) 1
            arrowOf(0, 5) 2
            width(1, 1, 9) 1
            arrowOf(0, 5) 9
            width(0, 199, 9) 197
            move(1, 1, 199) 0
            arrowOf(0, 5) 1782
            """);
    }

    private static void arrowOfStrips() {
        Run.test("promise 21: how many strips it leads on", """
            set(1, 10) 60
            bar(0, 0, 5) 0
            bar(1, 5, 5) 1
            arrow(0, 1) 0
            arrowOf(0, 7) 1
            move(1, 1, 9) 0
            arrowOf(0, 7) 1
            move(1, 1, 10) 0
            arrowOf(0, 7) 2
            move(0, 0, 1) 0
            arrowOf(0, 7) 1
            move(0, 0, 5) 0
            arrowOf(0, 7) 1
            move(1, 1, 195) 0
            move(0, 0, 0) 0
            arrowOf(0, 7) 39
            move(0, 0, 190) 0
            arrowOf(0, 7) 1
            move(0, 0, 191) 1
            arrowOf(0, 7) NONE
            """);
        Run.test("promise 21: it leads on none within a strip", """
            set(1, 10) 60
            bar(0, 0, 1) 0
            bar(1, 4, 1) 1
            arrow(0, 1) 0
            arrowOf(0, 7) 0
            move(1, 1, 1) 0
            arrowOf(0, 7) 0
            move(1, 1, 5) 0
            arrowOf(0, 7) 1
            """);
    }

    private static void reason() {
        Run.test("promise 22: UNKNOWN (arrow), and any number for the bend", """
            reason(0, 0) UNKNOWN
            bar(0, 0, 1) 0
            bar(1, 199, 1) 1
            arrow(0, 1) 0
            reason(-1, 5) UNKNOWN
            reason(1, 5) UNKNOWN
            reason(MIN, MIN) UNKNOWN
            reason(MAX, MAX) UNKNOWN
            reason(0, MIN) 1
            reason(0, -1) 1
            reason(0, 0) 1
            reason(0, 1) 0
            reason(0, 199) 0
            reason(0, 200) 1
            reason(0, 201) 1
            reason(0, MAX) 1
            takeArrow(0) 1
            reason(0, 5) UNKNOWN
            """);
        Run.test("promise 22: reason 4 at the last days", """
            bar(0, 0, 1) 0
            bar(2, 199, 1) 1
            arrow(0, 1) 0
            bar(1, 170, 30) 2
            reason(0, 170) 0
            reason(0, 171) 4
            reason(0, 199) 4
            bar(1, 0, 2) 3
            reason(0, 1) 4
            reason(0, 2) 0
            """);
        Run.test("promise 22: a late arrow has reason 1 at each day", """
            bar(0, 5, 1) 0
            bar(2, 5, 1) 1
            bar(1, 0, 30) 2
            arrow(0, 1) 0
            reason(0, #) 1 1 1 1 1 1 1 1 1
            move(1, 2, 6) 1
            reason(0, #) 1 1 1 1 1 1 4 1 1
            """);
    }

    private static void cell() {
        Run.test("promise 23: UNKNOWN (lane or day)", """
            bar(0, 0, 1) 0
            bar(11, 199, 1) 1
            cell(-1, 0) UNKNOWN
            cell(12, 0) UNKNOWN
            cell(0, -1) UNKNOWN
            cell(11, 200) UNKNOWN
            cell(12, 200) UNKNOWN
            cell(MIN, MIN) UNKNOWN
            cell(MAX, MAX) UNKNOWN
            cell(0, 0) 0
            cell(11, 199) 1
            cell(0, 199) NONE
            cell(11, 0) NONE
            """);
        Run.test("promise 23: from the first day to the last one", """
            bar(7, 10, 30) 0
            cell(7, 9) NONE
            for 10..39: cell(7, #) 0
            cell(7, 40) NONE
            cell(6, 20) NONE
            cell(8, 20) NONE
            takeBar(0) 0
            cell(7, 10) NONE
            cell(7, 39) NONE
            """);
        Run.test("promise 23: two bars that are close", """
            bar(7, 12, 2) 0
            bar(7, 10, 2) 1
            for 9..9: cell(7, #) NONE
            cell(7, 10) 1
            cell(7, 11) 1
            cell(7, 12) 0
            cell(7, 13) 0
            cell(7, 14) NONE
            """);
    }

    private static void strip() {
        Run.test("promise 24: BAD_VALUE (a strip below 0, or what) ahead of NONE", """
            strip(-1, 0) BAD_VALUE
            strip(-1, 5) BAD_VALUE
            strip(0, 5) BAD_VALUE
            strip(0, -1) BAD_VALUE
            strip(MAX, 5) BAD_VALUE
            strip(MIN, 0) BAD_VALUE
            strip(0, MAX) BAD_VALUE
            strip(0, 0) NONE
            bar(0, 0, 1) 0
            strip(0, #) 0 1 2 1 1 BAD_VALUE
            strip(-1, 0) BAD_VALUE
            strip(1, 0) NONE
            strip(MAX, 4) NONE
            """);
        Run.test("promise 24: the bars that it shows, and those that begin in it", """
            set(1, 10) 60
            bar(0, 0, 5) 0
            bar(1, 4, 1) 1
            bar(2, 4, 2) 2
            bar(3, 5, 1) 3
            bar(4, 0, 11) 4
            bar(5, 9, 1) 5
            bar(6, 10, 1) 6
            count(7) 3
            strip(0, #) 0 5 10 4 4
            strip(1, #) 5 5 10 4 2
            strip(2, #) 10 1 2 2 1
            strip(3, 0) NONE
            """);
        Run.test("promise 24: a strip that shows no bar", """
            set(1, 10) 60
            bar(0, 10, 1) 0
            strip(0, #) 0 5 10 0 0
            strip(1, #) 5 5 10 0 0
            strip(2, #) 10 1 2 1 1
            """);
        Run.test("promise 24: thirty bars in a strip", """
            for 0..9: bar(0, #, 1) #
            for 0..9: bar(1, #, 1) #+10
            for 0..9: bar(2, #, 1) #+20
            strip(0, #) 0 10 20 30 30
            """);
    }

    private static void count() {
        Run.test("promise 25: what is 0 to 16", """
            count(-1) BAD_VALUE
            count(17) BAD_VALUE
            count(MIN) BAD_VALUE
            count(MAX) BAD_VALUE
            count(#) 0 0 0 0 0 0 0 0 0 0 0 0 0 0 0 0 60 BAD_VALUE
            """);
        Run.test("promise 25: 30 bars and 40 arrows", THIRTY, FORTY, """
            count(#) 30 40 1 39 0 0 30 1 60 30 30 40 0 4 0 0 60 BAD_VALUE
            """);
        Run.test("promise 25: the arrows that are not drawn, and those of them that are late", """
            bar(0, 5, 2) 0
            bar(1, 7, 1) 1
            bar(2, 6, 1) 2
            bar(3, 20, 1) 3
            arrow(0, 1) 0
            arrow(0, 2) 1
            arrow(0, 3) 2
            count(1) 3
            count(3) 1
            count(4) 1
            bar(0, 7, 1) 4
            count(3) 1
            bar(3, 8, 1) 5
            count(3) 2
            count(4) 1
            move(2, 2, 7) 1
            count(4) 0
            """);
        Run.test("promise 25: the greatest end, of all bars", """
            count(6) 0
            bar(0, 5, 1) 0
            count(6) 6
            bar(1, 0, 30) 1
            count(6) 30
            bar(2, 10, 20) 2
            count(6) 30
            bar(3, 199, 1) 3
            count(6) 200
            """);
        Run.test("promise 25: the days that bars slipped, by slip() alone", """
            bar(0, 0, 2) 0
            bar(0, 2, 2) 1
            move(1, 0, 4) 0
            count(12) 0
            slip(0, 2) 1
            count(12) 2
            slip(0, 1) 2
            count(12) 4
            ifSlipped(0, 9) *
            pull(0) 3
            swap(0, 1) 0
            pack() 1
            count(12) 4
            undo() 3
            undo() 2
            undo() 1
            count(12) 4
            undo() 0
            count(12) 2
            """);
        Run.test("promise 25: states and the length of the text at their bounds", """
            for 0..4: bar(0, #, 1) #
            count(13) 4
            for 1..60: type('x') #
            count(14) 60
            undo() 3
            count(13) 3
            count(14) 60
            """);
    }

    private static void latest() {
        Run.test("promise 26: UNKNOWN", """
            latest(0) UNKNOWN
            bar(0, 5, 3) 0
            latest(-1) UNKNOWN
            latest(1) UNKNOWN
            latest(MIN) UNKNOWN
            latest(MAX) UNKNOWN
            latest(0) 5
            takeBar(0) 0
            latest(0) UNKNOWN
            """);
        Run.test("promise 26: the greatest end less its days, or the least of the latest days less its days", """
            bar(0, 0, 2) 0
            bar(1, 2, 3) 1
            bar(2, 9, 1) 2
            latest(#) 8 7 9
            arrow(0, 1) 0
            latest(#) 5 7 9
            arrow(1, 2) 1
            latest(#) 4 6 9
            arrow(0, 2) 2
            latest(#) 4 6 9
            move(0, 0, 1) 1
            latest(#) 7 6 9
            """);
        Run.test("promise 26: from day 0 to day 199", """
            bar(0, 0, 1) 0
            latest(0) 0
            bar(1, 199, 1) 1
            latest(#) 199 199
            arrow(0, 1) 0
            latest(#) 198 199
            """);
        Run.test("promise 26: thirty bars in a row", THIRTY, """
            for 0..29: latest(#) #
            bar(1, 0, 1) FULL
            move(29, 0, 199) 0
            for 0..29: latest(#) #+170
            """);
    }

    private static void longest() {
        Run.test("promise 27: 0 without bars, a bar alone, two of which none pushes", """
            longest() 0
            bar(0, 0, 1) 0
            longest() 1
            bar(1, 100, 30) 1
            longest() 30
            bar(2, 0, 29) 2
            longest() 30
            arrow(0, 1) 0
            longest() 31
            takeBar(1) 1
            longest() 29
            """);
        Run.test("promise 27: an arrow of no day pushes, a late one does not", """
            bar(0, 0, 5) 0
            bar(1, 5, 7) 1
            longest() 7
            arrow(0, 1) 0
            longest() 12
            move(1, 1, 4) 1
            longest() 7
            """);
        Run.test("promise 27: 200 days in a row, and 30 bars", """
            for 0..5: bar(0, #, 1) #
            longest() 6
            for 1..5: move(6-#, 0, 200-#) *
            longest() 6
            bar(0, 1, 30) 6
            bar(0, 31, 30) 7
            bar(0, 61, 30) 8
            bar(0, 91, 30) 9
            bar(0, 121, 30) 10
            bar(0, 151, 30) 11
            bar(0, 181, 14) 12
            longest() 200
            """);
        Run.test("promise 27: by lanes and arrows in turns", """
            bar(0, 0, 3) 0
            bar(0, 3, 3) 1
            bar(1, 6, 3) 2
            bar(1, 9, 3) 3
            longest() 6
            arrow(1, 2) 0
            longest() 12
            arrow(0, 3) 1
            takeArrow(0) 2
            longest() 6
            move(1, 5, 3) *
            longest() 6
            """);
    }

    private static void share() {
        Run.test("promise 28: 0.0 without bars, 1.0 if all is full", """
            share() 0.0
            bar(0, 0, 1) 0
            share() 1.0
            bar(0, 1, 30) 1
            share() 1.0
            bar(11, 0, 30) 2
            share() 0.9838709677419355
            takeBar(0) 0
            takeBar(1) 0
            takeBar(2) 0
            share() 0.0
            """);
        Run.test("promise 28: a day of 200, with the least and the greatest widths", """
            bar(0, 199, 1) 0
            share() 0.005
            width(0, 198, 9) 199
            width(199, 199, 1) 1
            share() 0.0005580357142857143
            width(0, 198, 1) 199
            width(199, 199, 9) 1
            share() 0.04326923076923077
            """);
        Run.test("promise 28: all twelve lanes full", """
            for 0..11: bar(#, 0, 30) #
            share() 1.0
            takeBar(5) 0
            share() 1.0
            bar(5, 0, 15) 12
            share() 0.9583333333333334
            """);
    }

    private static void ifSlipped() {
        Run.test("promise 29: UNKNOWN ahead of BAD_VALUE", """
            ifSlipped(0, 1) UNKNOWN
            bar(0, 0, 1) 0
            ifSlipped(-1, 0) UNKNOWN
            ifSlipped(1, 31) UNKNOWN
            ifSlipped(MIN, MIN) UNKNOWN
            ifSlipped(MAX, MAX) UNKNOWN
            ifSlipped(0, 0) BAD_VALUE
            ifSlipped(0, 31) BAD_VALUE
            ifSlipped(0, -1) BAD_VALUE
            ifSlipped(0, MIN) BAD_VALUE
            ifSlipped(0, MAX) BAD_VALUE
            ifSlipped(0, 1) 2
            ifSlipped(0, 30) 31
            """);
        Run.test("promise 29: also above 200", """
            bar(0, 199, 1) 0
            ifSlipped(0, 1) 201
            ifSlipped(0, 30) 230
            slip(0, 1) NOT_POSSIBLE
            bar(1, 169, 30) 1
            ifSlipped(1, 1) 200
            ifSlipped(1, 2) 201
            arrow(1, 0) 0
            ifSlipped(1, 1) 201
            ifSlipped(1, 30) 230
            """);
        Run.test("promise 29: 29 bars are pushed far above 200", """
            bar(0, 0, 30) 0
            bar(0, 30, 30) 1
            bar(0, 60, 30) 2
            bar(0, 90, 30) 3
            bar(0, 120, 30) 4
            bar(0, 150, 30) 5
            bar(0, 180, 20) 6
            for 7..26: bar(1, #+173, 1) #
            ifSlipped(0, 30) 230
            takeBar(6) 0
            ifSlipped(0, 30) 210
            arrow(5, 7) 0
            ifSlipped(0, 30) 230
            ifSlipped(0, 1) 201
            """);
        Run.test("promise 29: the greatest end stays, up to the slack", """
            bar(0, 0, 1) 0
            bar(1, 20, 3) 1
            ifSlipped(0, 22) 23
            ifSlipped(0, 23) 24
            count(13) 2
            barOf(0, 1) 0
            """);
    }

    private static void bestSwap() {
        Run.test("promise 30: BAD_VALUE ahead of NONE, what is 0 to 3", """
            bestSwap(-1) BAD_VALUE
            bestSwap(4) BAD_VALUE
            bestSwap(MIN) BAD_VALUE
            bestSwap(MAX) BAD_VALUE
            bestSwap(#) NONE NONE NONE NONE BAD_VALUE
            bar(0, 0, 2) 0
            bar(1, 0, 30) 1
            bar(2, 6, 2) 2
            bestSwap(#) NONE NONE NONE NONE BAD_VALUE
            arrow(0, 2) 0
            bestSwap(-1) BAD_VALUE
            bestSwap(#) 0 1 0 0 BAD_VALUE
            """);
        Run.test("promise 30: NONE if no swap is better than none", """
            bar(0, 5, 2) 0
            bar(1, 6, 2) 1
            arrow(0, 1) 0
            bestSwap(#) NONE NONE NONE NONE
            count(3) 1
            move(1, 1, 7) 0
            bestSwap(#) NONE NONE NONE NONE
            """);
        Run.test("promise 30: with the lanes 0 and 11", """
            bar(0, 0, 2) 0
            for 1..9: bar(#, 0, 30) #
            bar(11, 6, 2) 10
            arrow(0, 10) 0
            bestSwap(#) 0 9 0 0
            bar(10, 0, 30) 11
            bestSwap(#) 0 10 0 0
            swap(0, 10) 0
            bestSwap(#) NONE NONE NONE NONE
            """);
        Run.test("promise 30: the lowest first lane, then the lowest second one", """
            bar(5, 0, 2) 0
            bar(6, 0, 30) 1
            bar(7, 6, 2) 2
            arrow(0, 2) 0
            bestSwap(#) 0 6 0 0
            for 0..4: bar(#, 0, 30) #+3
            for 8..11: bar(#, 0, 30) #
            bestSwap(#) 4 7 0 0
            """);
        Run.test("promise 30: of several with a first lane the lowest second one", """
            bar(5, 0, 2) 0
            bar(7, 0, 30) 1
            bar(9, 6, 2) 2
            arrow(0, 2) 0
            bestSwap(#) 0 7 0 0
            for 0..4: bar(#, 0, 30) #+3
            bestSwap(#) 4 9 0 0
            """);
        Run.test("promise 30: of several with which as many arrows are not drawn, the fewest points", """
            bar(1, 0, 1) 0
            bar(3, 20, 1) 1
            bar(0, 0, 1) 2
            bar(2, 15, 1) 3
            arrow(0, 1) 0
            arrow(2, 3) 1
            set(0, 2) 0
            count(5) 2
            bestSwap(#) 0 3 0 0
            swap(0, 3) 0
            bestSwap(#) NONE NONE NONE NONE
            """);
    }

    /** Each swap ahead of that one hinders another arrow: (0, 1), (0, 3) and (1, 2) by a bar for each. */
    private static void bestSwapWithTheLastLane() {
        Run.test("promise 30: the last lane, which has no bars, is the second one", """
            bar(0, 0, 2) 0
            bar(0, 40, 25) 1
            bar(1, 0, 30) 2
            bar(1, 40, 2) 3
            bar(1, 110, 25) 4
            bar(2, 20, 2) 5
            bar(2, 60, 2) 6
            bar(2, 110, 2) 7
            bar(3, 0, 30) 8
            bar(3, 130, 2) 9
            for 4..10: bar(#, 0, 30) #+6
            arrow(0, 5) 0
            arrow(3, 6) 1
            arrow(7, 9) 2
            count(3) 1
            bestSwap(#) 1 11 0 0
            swap(0, 1) 1
            undo() 3
            swap(0, 3) 1
            undo() 3
            swap(1, 2) 1
            undo() 3
            swap(1, 11) 0
            """);
    }

    /** Charts that were found by a search. */
    private static void bestSwapBeforePoints() {
        Run.test("promise 30: fewer arrows not drawn are better, with more points, too", """
            bar(9, 2, 19) 0
            bar(3, 25, 1) 1
            bar(11, 10, 5) 2
            bar(4, 7, 18) 3
            bar(5, 26, 9) 4
            bar(2, 7, 13) 5
            bar(1, 4, 18) 6
            bar(6, 19, 18) 7
            bar(4, 1, 4) 8
            bar(7, 12, 7) 9
            bar(4, 29, 5) 10
            bar(10, 12, 4) 11
            bar(11, 21, 7) 12
            arrow(9, 10) 0
            arrow(10, 11) 1
            arrow(12, 6) 2
            arrow(8, 11) 3
            arrow(8, 4) 4
            arrow(2, 6) 5
            arrow(2, 7) 6
            count(3) 6
            count(5) 0
            bestSwap(#) 6 10 3 1
            swap(6, 10) 3
            count(5) 1
            """);
        Run.test("promise 30: fewer points are not better, with more arrows not drawn", """
            bar(11, 27, 18) 0
            bar(3, 27, 16) 1
            bar(9, 14, 1) 2
            bar(6, 26, 4) 3
            bar(11, 15, 12) 4
            bar(8, 28, 8) 5
            bar(7, 11, 6) 6
            bar(2, 7, 14) 7
            bar(9, 27, 8) 8
            bar(8, 12, 1) 9
            arrow(2, 4) 0
            arrow(7, 8) 1
            arrow(3, 8) 2
            arrow(9, 0) 3
            arrow(9, 7) 4
            arrow(5, 2) 5
            arrow(1, 6) 6
            count(3) 4
            count(5) 1
            bestSwap(#) NONE NONE NONE NONE
            swap(0, 8) 5
            count(5) 0
            """);
    }

    private static void bestLane() {
        Run.test("promise 31: UNKNOWN", """
            bestLane(0) UNKNOWN
            bar(7, 0, 1) 0
            bestLane(-1) UNKNOWN
            bestLane(1) UNKNOWN
            bestLane(MIN) UNKNOWN
            bestLane(MAX) UNKNOWN
            bestLane(0) 0
            barOf(0, 0) 7
            """);
        Run.test("promise 31: the lowest lane where it has room, its own one, too", """
            for 0..10: bar(#, 5, 3) #
            bar(11, 7, 1) 11
            bestLane(11) 11
            takeBar(10) 0
            bestLane(11) 10
            move(11, 11, 8) 0
            bestLane(11) 0
            move(11, 11, 4) 0
            bestLane(11) 0
            move(11, 11, 5) 0
            bestLane(11) 10
            """);
        Run.test("promise 31: the fewest arrows that are not drawn", """
            bar(0, 0, 2) 0
            bar(1, 0, 30) 1
            bar(2, 6, 2) 2
            arrow(0, 2) 0
            bestLane(0) 2
            bestLane(2) 0
            bestLane(1) 3
            move(2, 0, 6) 0
            bestLane(2) 0
            bestLane(1) 1
            """);
        Run.test("promise 31: the lowest, if 40 arrows are not drawn in all lanes", """
            for 0..13: bar(5, 29-#, 1) #
            for 4..13: arrow(0, #) #-4
            for 4..13: arrow(1, #) #+6
            for 4..13: arrow(2, #) #+16
            for 4..13: arrow(3, #) #+26
            count(3) 40
            count(4) 40
            bestLane(0) 0
            bestLane(13) 0
            bar(0, 29, 1) 14
            bestLane(0) 1
            bestSwap(0) NONE
            """);
        Run.test("promise 31: lane 11 is the one", """
            bar(9, 0, 2) 0
            bar(10, 0, 30) 1
            bar(11, 20, 2) 2
            bestLane(0) 0
            arrow(0, 2) 0
            bestLane(0) 11
            bestLane(1) 0
            bestLane(2) 0
            bar(11, 1, 1) 3
            bestLane(0) 0
            """);
    }
}
