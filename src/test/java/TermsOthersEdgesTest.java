/** Each sentence of "Terms" on widths, strips, slips, texts, history and errors that names a boundary. */
public final class TermsOthersEdgesTest {
    public static void main(String[] args) {
        widths();
        places();
        daysOfTheChart();
        strips();
        settings();
        pushes();
        slips();
        slack();
        roomForText();
        parts();
        numbersInTexts();
        zeros();
        faults();
        states();
        whatIsRecorded();
        snapshot();
        whatAStateIs();
        noneIsNoError();
        Run.finish();
    }

    private static void widths() {
        Run.test("terms: each day from 0 to 199 has a width", """
            bar(0, 0, 1) 0
            bar(0, 199, 1) 1
            width(0, 0, 9) 1
            width(199, 199, 8) 1
            width(200, 200, 8) BAD_VALUE
            width(-1, -1, 8) BAD_VALUE
            width(0, 200, 8) BAD_VALUE
            width(-1, 199, 8) BAD_VALUE
            barOf(0, 5) 9
            barOf(1, 5) 8
            count(8) 413
            """);
        Run.test("terms: a width is 1 to 9", """
            bar(0, 0, 1) 0
            width(0, 0, 0) BAD_VALUE
            width(0, 0, 10) BAD_VALUE
            width(0, 0, MIN) BAD_VALUE
            width(0, 0, MAX) BAD_VALUE
            barOf(0, 5) 2
            width(0, 0, 1) 1
            barOf(0, 5) 1
            width(0, 0, 9) 1
            barOf(0, 5) 9
            """);
        Run.test("terms: a width is 2 at first", """
            width(0, 199, 2) NONE
            for 0..199: width(#, #, 2) NONE
            width(0, 199, 3) 200
            """);
    }

    private static void places() {
        Run.test("terms: a place is the sum of the widths of the days ahead", """
            bar(0, 0, 1) 0
            bar(0, 1, 1) 1
            bar(0, 199, 1) 2
            barOf(#, 4) 0 2 398
            width(0, 0, 9) 1
            barOf(#, 4) 0 9 405
            width(199, 199, 9) 1
            barOf(#, 4) 0 9 405
            width(198, 198, 1) 1
            barOf(#, 4) 0 9 404
            width(0, 199, 9) 198
            barOf(#, 4) 0 9 1791
            width(0, 199, 1) 200
            barOf(#, 4) 0 1 199
            """);
    }

    private static void daysOfTheChart() {
        Run.test("terms: the empty chart has no days and no strips", """
            count(6) 0
            count(7) 0
            count(8) 0
            strip(0, 0) NONE
            bar(0, 0, 1) 0
            count(6) 1
            count(7) 1
            count(8) 2
            strip(0, 1) 1
            takeBar(0) 0
            count(7) 0
            count(8) 0
            strip(0, 0) NONE
            """);
        Run.test("terms: the chart has the days up to the last day of a bar", """
            bar(0, 199, 1) 0
            bar(1, 0, 30) 1
            count(8) 400
            strip(6, 1) 20
            strip(7, 0) NONE
            takeBar(0) 0
            count(8) 60
            strip(0, 1) 30
            strip(1, 0) NONE
            """);
    }

    private static void strips() {
        Run.test("terms: a strip takes days as have the width at most", """
            bar(0, 5, 1) 0
            set(1, 12) 60
            count(7) 1
            strip(0, #) 0 6 12 1 1
            set(1, 11) 12
            count(7) 2
            strip(0, #) 0 5 10 0 0
            strip(1, #) 5 1 2 1 1
            set(1, 10) 11
            strip(0, #) 0 5 10 0 0
            width(5, 5, 1) 1
            set(1, 11) 10
            count(7) 1
            width(5, 5, 2) 1
            count(7) 2
            """);
        Run.test("terms: a strip takes one day at least", """
            bar(0, 0, 3) 0
            set(1, 10) 60
            width(0, 199, 9) 200
            count(7) 3
            strip(0, #) 0 1 9 1 1
            strip(2, #) 2 1 9 1 0
            width(1, 1, 1) 1
            count(7) 2
            strip(0, #) 0 2 10 1 1
            """);
        Run.test("terms: strips of 999", """
            bar(0, 199, 1) 0
            width(0, 199, 9) 200
            set(1, 999) 60
            count(7) 2
            strip(0, #) 0 111 999 0 0
            strip(1, #) 111 89 801 1 1
            set(1, 998) 999
            strip(0, #) 0 110 990 0 0
            """);
        Run.test("terms: 200 strips", """
            bar(0, 199, 1) 0
            width(0, 199, 9) 200
            set(1, 10) 60
            count(7) 200
            for 0..199: strip(#, 0) #
            strip(200, 0) NONE
            barOf(0, 9) 199
            """);
        Run.test("terms: one strip for all days", """
            bar(0, 199, 1) 0
            set(1, 400) 60
            count(7) 1
            set(1, 399) 400
            count(7) 2
            strip(1, #) 199 1 2 1 1
            """);
    }

    private static void settings() {
        Run.test("terms: the setting 0 is 0 to 2, 0 at first", """
            count(15) 0
            set(0, 0) NONE
            set(0, -1) BAD_VALUE
            set(0, 3) BAD_VALUE
            set(0, MIN) BAD_VALUE
            set(0, MAX) BAD_VALUE
            set(0, 2) 0
            set(0, 3) BAD_VALUE
            set(0, 1) 2
            set(0, 0) 1
            set(0, -1) BAD_VALUE
            count(15) 0
            """);
        Run.test("terms: the setting 1 is 10 to 999, 60 at first", """
            count(16) 60
            set(1, 60) NONE
            set(1, 9) BAD_VALUE
            set(1, 1000) BAD_VALUE
            set(1, MIN) BAD_VALUE
            set(1, MAX) BAD_VALUE
            set(1, 10) 60
            set(1, 9) BAD_VALUE
            set(1, 999) 10
            set(1, 1000) BAD_VALUE
            count(16) 999
            """);
        Run.test("terms: there are two settings", """
            set(-1, 1) BAD_VALUE
            set(2, 1) BAD_VALUE
            set(2, 60) BAD_VALUE
            set(MIN, 1) BAD_VALUE
            set(MAX, 1) BAD_VALUE
            count(13) 0
            """);
    }

    private static void pushes() {
        Run.test("terms: an arrow that is not late pushes", """
            bar(0, 0, 3) 0
            bar(1, 3, 2) 1
            arrow(0, 1) 0
            slip(0, 1) 2
            barOf(#, 1) 1 4
            undo() 3
            move(1, 1, 2) 1
            slip(0, 30) 1
            barOf(#, 1) 30 2
            """);
        Run.test("terms: a bar that is behind in the lane is pushed, and no other one", """
            bar(0, 0, 3) 0
            bar(0, 3, 2) 1
            bar(1, 3, 2) 2
            slip(1, 1) 1
            barOf(#, 1) 0 4 3
            undo() 3
            slip(0, 1) 2
            barOf(#, 1) 1 4 3
            """);
        Run.test("terms: an arrow pushes in a lane, too, and a late one in a lane does not matter", """
            bar(0, 0, 3) 0
            bar(0, 5, 2) 1
            arrow(1, 0) 0
            arrowOf(0, 3) 7
            slip(0, 3) 2
            barOf(#, 1) 3 6
            slip(1, 30) 1
            barOf(#, 1) 3 36
            longest() 5
            """);
    }

    private static void slips() {
        Run.test("terms: not less than the end of any that pushes it then", """
            bar(0, 0, 3) 0
            bar(0, 5, 2) 1
            bar(1, 6, 2) 2
            arrow(0, 2) 0
            slip(0, 2) 1
            barOf(#, 1) 2 5 6
            undo() 3
            slip(0, 3) 2
            barOf(#, 1) 3 6 6
            undo() 3
            slip(0, 4) 3
            barOf(#, 1) 4 7 7
            undo() 3
            slip(0, 30) 3
            barOf(#, 1) 30 33 33
            """);
        Run.test("terms: directly or by way of others, the end of the last one decides", """
            bar(0, 0, 2) 0
            bar(1, 2, 9) 1
            bar(2, 2, 1) 2
            bar(3, 12, 2) 3
            arrow(0, 1) 0
            arrow(0, 2) 1
            arrow(1, 3) 2
            arrow(2, 3) 3
            slip(0, 1) 3
            barOf(#, 1) 1 3 3 12
            slip(0, 1) 4
            barOf(#, 1) 2 4 4 13
            slip(2, 8) 1
            barOf(#, 1) 2 4 12 13
            """);
        Run.test("terms: who pushes whom is as it was ahead of the slip", """
            bar(0, 5, 3) 0
            bar(1, 7, 2) 1
            bar(2, 0, 7) 2
            arrow(0, 1) 0
            arrow(2, 1) 1
            slip(2, 1) 2
            barOf(#, 1) 5 8 1
            slip(0, 1) 2
            barOf(#, 1) 6 9 1
            """);
        Run.test("terms: a slip of 29 bars behind one", """
            for 0..28: bar(0, #, 1) #
            bar(5, 29, 30) 29
            arrow(28, 29) 0
            slip(0, 30) 30
            for 0..28: barOf(#, 1) #+30
            barOf(29, 1) 59
            count(12) 900
            """);
    }

    private static void slack() {
        Run.test("terms: slack, so that the greatest end stays as it is", """
            bar(0, 0, 2) 0
            bar(1, 5, 3) 1
            barOf(#, 6) 6 0
            ifSlipped(0, 6) 8
            ifSlipped(0, 7) 9
            ifSlipped(1, 1) 9
            count(9) 1
            slip(0, 5) 1
            barOf(#, 6) 1 0
            slip(0, 1) 1
            barOf(#, 6) 0 0
            count(9) 2
            """);
        Run.test("terms: slack of a bar that pushes others", """
            bar(0, 0, 2) 0
            bar(0, 4, 3) 1
            bar(1, 9, 4) 2
            barOf(#, 6) 8 6 0
            arrow(1, 2) 0
            barOf(#, 6) 4 2 0
            ifSlipped(0, 4) 13
            ifSlipped(0, 5) 14
            move(2, 1, 6) 1
            barOf(#, 6) 5 3 0
            """);
        Run.test("terms: slack of 199 and of 0", """
            bar(0, 0, 1) 0
            barOf(0, 6) 0
            count(9) 1
            bar(1, 199, 1) 1
            barOf(#, 6) 199 0
            latest(#) 199 199 UNKNOWN
            count(9) 1
            """);
        Run.test("terms: no bar, no critical one", """
            count(9) 0
            barOf(0, 6) UNKNOWN
            latest(0) UNKNOWN
            """);
    }

    private static void roomForText() {
        Run.test("terms: a text of 60 characters at most, empty at first", """
            count(14) 0
            clearText() 0
            for 1..59: type('0') #
            type('1') 60
            type('2') FULL
            type('2') FULL
            count(14) 60
            clearText() 60
            clearText() 0
            type('2') 1
            """);
        Run.test("terms: a text of 60 characters is read to its end", """
            text 0@0+1;1@0+1;2@0+1;3@0+1;4@0+1;5@0+1;6@0+1;7@0+1;8@0+1;9@0+10
            type('0') FULL
            count(14) 60
            fault() NONE
            addAll() 10
            barOf(9, 2) 10
            """);
        Run.test("terms: a text of 60 characters with a fault at its last one, and one behind it", """
            text 0@0+1;1@0+1;2@0+1;3@0+1;4@0+1;5@0+1;6@0+1;7@0+1;8@0+1;9@0+1x
            count(14) 60
            fault() 59
            addAll() -159
            text 0@0+1;1@0+1;2@0+1;3@0+1;4@0+1;5@0+1;6@0+1;7@0+1;8@0+1;9@0+1;
            fault() 60
            addAll() -160
            count(0) 0
            """);
    }

    private static void parts() {
        Run.test("terms: one part, and two with a semicolon between", """
            text 0@0+1
            fault() NONE
            addAll() 1
            text 0@1+1;0@2+1
            fault() NONE
            addAll() 2
            text ;0@3+1
            fault() 0
            text 0@3+1;
            fault() 6
            text 0@3+1;;0@4+1
            fault() 6
            text 0>1;0>2
            fault() NONE
            addAll() 2
            text 0>1;
            fault() 4
            """);
        Run.test("terms: fifteen parts, as many as a text can have", """
            for 0..5: bar(0, #, 1) #
            text 0>1;0>2;0>3;0>4;0>5;1>2;1>3;1>4;1>5;2>3;2>4;2>5;3>4;3>5;4>5
            fault() NONE
            type(';') 60
            fault() 60
            addAll() -160
            text 0>1;0>2;0>3;0>4;0>5;1>2;1>3;1>4;1>5;2>3;2>4;2>5;3>4;3>5;4>5
            addAll() 15
            count(1) 15
            arrowOf(14, 0) 4
            arrowOf(14, 1) 5
            """);
    }

    private static void fault(String text, Object due) {
        Run.test("terms: fault of \"" + text + "\"", "text " + text + "\nfault() " + due
                + (due instanceof Integer ? "\naddAll() " + (-100 - (Integer) due) : "") + "\ncount(0) 0");
    }

    private static void numbersInTexts() {
        fault("0@0+1", "NONE");
        fault("11@0+1", "NONE");
        fault("12@0+1", 2);
        fault("13@0+1", 2);
        fault("20@0+1", 2);
        fault("89@0+1", 2);
        fault("0@199+1", "NONE");
        fault("0@200+1", 4);
        fault("0@201+1", 4);
        fault("0@190+30", "NONE");
        fault("0@210+1", 4);
        fault("0@99+1", "NONE");
        fault("0@999+1", 4);
        fault("0@0+30", "NONE");
        fault("0@0+31", 5);
        fault("0@0+40", 5);
        fault("0@0+99", 5);
        fault("0@0+9", "NONE");
        fault("0@0+300", 6);
        fault("0>89", "NONE");
        fault("89>0", "NONE");
        fault("90>0", 1);
        fault("0>90", 3);
        fault("99>0", 1);
        fault("100>0", 2);
        fault("0>100", 4);
        fault("12>0", "NONE");
        fault("0@1000+1", 5);
        fault("0@99999999999+1", 4);
        fault("99999999999@0+1", 1);
        fault("0@0+99999999999", 5);
        fault("0>99999999999", 3);
    }

    private static void zeros() {
        fault("0>0", "NONE");
        fault("00>0", 1);
        fault("01>0", 1);
        fault("0>00", 3);
        fault("0>01", 3);
        fault("10>10", "NONE");
        fault("00@0+1", 1);
        fault("01@0+1", 1);
        fault("10@0+1", "NONE");
        fault("0@00+1", 3);
        fault("0@01+1", 3);
        fault("0@10+1", "NONE");
        fault("0@100+1", "NONE");
        fault("0@0+0", 4);
        fault("0@0+01", 4);
        fault("0@0+10", "NONE");
        fault("0@0+20", "NONE");
    }

    private static void faults() {
        Run.test("terms: the empty text ends too early", """
            fault() 0
            addAll() -100
            type('0') 1
            clearText() 1
            fault() 0
            addAll() -100
            """);
        fault("0", 1);
        fault("11", 2);
        fault("0@", 2);
        fault("0@0", 3);
        fault("0@0+", 4);
        fault("0>", 2);
        fault("0@0+1;0", 7);
        fault("@", 0);
        fault(">", 0);
        fault("+", 0);
        fault("x", 0);
        fault("0x", 1);
        fault("0;", 1);
        fault("0+", 1);
        fault("0@@", 2);
        fault("0@+", 2);
        fault("0@0@", 3);
        fault("0@0;", 3);
        fault("0@0>", 3);
        fault("0@0+;", 4);
        fault("0@0++", 4);
        fault("0@0+1+", 5);
        fault("0@0+1@", 5);
        fault("0@0+1>", 5);
        fault("0>;", 2);
        fault("0>>", 2);
        fault("0>1>", 3);
        fault("0>1@", 3);
        fault("0>1+", 3);
        fault("0>1;12@0+1", 6);
        fault("0@0+1;0>1;x", 10);
        fault("0@0+1 ", 5);
        fault(" 0@0+1", 0);
        fault("0@-1+1", 2);
        fault("0@0+1,", 5);
        String[] ranges = {"0..61", "62..62", "63..63", "64..64", "65..127", "128..253", "254..255"};
        for (String range : ranges) {
            boolean mark = range.equals("62..62") || range.equals("64..64");
            Run.test("terms: behind a 0 in front, of the characters " + range,
                "for " + range + ": clearText() * | type('0') 1 | type(#) 2 | fault() " + (mark ? 2 : 1));
        }
        int[] beside = {0, 1, 9, 10, 32, 42, 44, 47, 58, 60, 61, 63, 65, 127, 128, 255, 256, 304, 320, 65535};
        for (int sign : beside) {
            Run.test("terms: the character " + sign + " is allowed at no place",
                "type(" + sign + ") 1\nfault() 0\nclearText() 1",
                "type('0') 1\ntype(" + sign + ") 2\nfault() 1\ntype('@') 3\nfault() 1\nclearText() 3",
                "type('0') 1\ntype('>') 2\ntype('1') 3\ntype(" + sign + ") 4\nfault() 3\naddAll() -103");
        }
    }

    private static void states() {
        Run.test("terms: the empty history", """
            undo() NONE
            count(13) 0
            undo() NONE
            """);
        Run.test("terms: a history of at most 4 states, the oldest one is dropped", """
            bar(0, 0, 1) 0
            count(13) 1
            bar(0, 1, 1) 1
            bar(0, 2, 1) 2
            count(13) 3
            bar(0, 3, 1) 3
            count(13) 4
            bar(0, 4, 1) 4
            count(13) 4
            undo() 3
            count(0) 4
            undo() 2
            count(0) 3
            undo() 1
            count(0) 2
            undo() 0
            count(0) 1
            undo() NONE
            count(0) 1
            count(13) 0
            """);
        Run.test("terms: four states, none of which is dropped", """
            for 0..3: bar(0, #, 1) #
            for 0..3: undo() 3-# | count(0) 3-#
            undo() NONE
            """);
        Run.test("terms: a history that goes round and round", """
            for 0..20: bar(0, #, 1) #
            undo() 3
            undo() 2
            count(0) 19
            bar(1, 0, 1) 19
            bar(1, 1, 1) 20
            bar(1, 2, 1) 21
            count(13) 4
            undo() 3
            count(0) 21
            undo() 2
            count(0) 20
            undo() 1
            count(0) 19
            undo() 0
            count(0) 18
            undo() NONE
            count(0) 18
            bar(2, 0, 1) 18
            undo() 0
            undo() NONE
            """);
    }

    private static void whatIsRecorded() {
        Run.test("terms: each act records the state that was before it", """
            bar(0, 0, 1) 0 | count(13) 1 | undo() 0
            text 0@0+1
            addAll() 1 | count(13) 1 | undo() 0
            width(0, 0, 1) 1 | count(13) 1 | undo() 0
            set(0, 1) 0 | count(13) 1 | undo() 0
            keep() 0 | count(13) 0
            restore() 0 | count(13) 1 | undo() 0
            count(0) 0
            count(15) 0
            """);
        String two = """
            bar(0, 3, 1) 0
            bar(1, 8, 1) 1
            undo() 1
            undo() 0
            text 0@3+1;1@8+1;0>1
            addAll() 3
            undo() 0
            addAll() 3
            """;
        String[] acts = {"arrow(1, 0) NOT_POSSIBLE", "takeBar(0) 1", "takeArrow(0) 1", "move(0, 0, 4) 0",
            "swap(0, 5) 0", "slip(0, 1) 1", "pull(0) 3"};
        for (int i = 1; i < acts.length; i++) {
            Run.test("terms: recorded, and undone: " + acts[i], two, "count(13) 1\n" + acts[i]
                + "\ncount(13) 2\nundo() 1\nbarOf(0, 0) 0\nbarOf(0, 1) 3\narrowOf(0, 1) 1\ncount(12) 0");
        }
        Run.test("terms: recorded, and undone: arrow", two, "takeArrow(0) 1\narrow(0, 1) 1\ncount(13) 3",
            "undo() 2\ncount(1) 0\nundo() 1\narrowOf(0, 1) 1");
        Run.test("terms: recorded, and undone: pack", two, "pack() 1\ncount(13) 2\nundo() 1\nbarOf(1, 0) 1");
    }

    private static void snapshot() {
        Run.test("terms: no snapshot at first", """
            restore() NONE
            bar(0, 0, 1) 0
            restore() NONE
            undo() 0
            restore() NONE
            count(13) 0
            """);
        Run.test("terms: one snapshot, in place of the one that was", """
            keep() 0
            bar(0, 0, 1) 0
            keep() 1
            bar(0, 1, 1) 1
            restore() 1
            restore() 1
            bar(0, 1, 1) 1
            bar(0, 2, 1) 2
            restore() 1
            count(10) 1
            """);
        Run.test("terms: a snapshot of the empty chart", """
            keep() 0
            bar(0, 0, 1) 0
            set(1, 10) 60
            width(0, 0, 9) 1
            restore() 0
            count(0) 0
            count(10) 0
            count(16) 60
            width(0, 199, 2) NONE
            undo() 3
            count(0) 1
            """);
    }

    private static void whatAStateIs() {
        Run.test("terms: a state is everything but the text, the history and the snapshot", """
            bar(0, 0, 1) 0
            bar(1, 1, 1) 1
            arrow(0, 1) 0
            keep() 2
            text 2@2+2
            slip(0, 5) 2
            width(3, 3, 3) 1
            set(0, 1) 0
            set(1, 10) 60
            type(';') 6
            restore() 2
            count(14) 6
            count(12) 0
            count(15) 0
            count(16) 60
            width(0, 199, 2) NONE
            undo() 3
            count(14) 6
            count(12) 10
            count(15) 1
            count(16) 10
            width(3, 3, 3) NONE
            undo() 2
            count(16) 60
            clearText() 6
            undo() 1
            count(14) 0
            count(15) 0
            restore() 2
            count(12) 0
            """);
    }

    private static void noneIsNoError() {
        Run.test("terms: NONE is returned only if no error applies", """
            swap(12, 12) UNKNOWN
            swap(-1, -1) UNKNOWN
            swap(0, 12) UNKNOWN
            swap(0, 0) NONE
            swap(0, 1) NONE
            width(0, 200, 2) BAD_VALUE
            width(0, 199, 2) NONE
            set(2, 0) BAD_VALUE
            set(0, 0) NONE
            strip(-1, 0) BAD_VALUE
            strip(0, 5) BAD_VALUE
            strip(0, -1) BAD_VALUE
            strip(0, 4) NONE
            bestSwap(-1) BAD_VALUE
            bestSwap(4) BAD_VALUE
            bestSwap(3) NONE
            cell(12, 0) UNKNOWN
            cell(0, 200) UNKNOWN
            cell(0, 199) NONE
            pull(0) UNKNOWN
            pack() NONE
            bar(0, 0, 1) 0
            pull(0) NONE
            barOf(0, 11) NONE
            barOf(1, 11) UNKNOWN
            move(0, 0, 0) NONE
            move(1, 0, 0) UNKNOWN
            """);
    }
}
