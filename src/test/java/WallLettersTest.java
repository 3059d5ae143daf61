/** Promise 3 and what the document tells of a WALL: its letters, its STATEMENTS, both kinds of FAULT. */
public final class WallLettersTest {
    private static final int PROMISE = 3;
    private static final Cases CASES = new Cases();
    /** One STATEMENT of each form; SPACE has one digit or two. */
    private static final String[] STATEMENTS = {"s16,2;", "s6,1;", "ll;", "d20;", "t010+;", "n05-;", "p105;"};
    /** For each of them and each place the letters with which a WALL can go on: 9 any digit. */
    private static final String[][] GOES_ON = {
        {"sldtnp", "9", "9,", ",", "9", ";"}, {"sldtnp", "9", "9,", "9", ";"}, {"sldtnp", "lrdchs", ";"},
        {"sldtnp", "9", "9", ";"}, {"sldtnp", "9", "9", "9", "+-", ";"}, {"sldtnp", "9", "9", "+-", ";"},
        {"sldtnp", "9", "9", "9", ";"},
    };

    public static void main(String[] args) {
        empty();
        full();
        formByEachLetter();
        formNumbers();
        numbersOutOfRange();
        nailsThatCanNotBe();
        noRoom();
        whichFault();
        whatComes();
        CASES.end(PROMISE);
    }

    private static void each(String what, Cases.Case c) {
        CASES.promise(PROMISE, what, c);
    }

    private static void told(String what, int want, String text) {
        each(what + ": \"" + text + "\"", run -> run.wall(want, text));
    }

    private static void empty() {
        told("no letters: at least one STATEMENT lacks at the end, place 0", -1000, "");
        each("no letters, twice, is no refusal", run -> {
            run.wall(-1000, "");
            run.wall(-1000, "");
            run.due(0, "count", 13);
        });
        each("no letters behind a wall that came", run -> {
            run.wall(1, "lr;");
            run.wall(-1000, "");
            run.due(1, "count", 7);
        });
        each("no letters behind a fault", run -> {
            run.wall(-1001, "lx;");
            run.wall(-1000, "");
        });
        each("no letters behind letters that were refused", run -> {
            run.refused(-4, "letter", -1);
            run.refused(-6, "letter", 256);
            run.wall(-1000, "");
        });
    }

    private static void full() {
        told("96 letters, 32 STATEMENTS", 32, "ll;".repeat(32));
        told("96 letters, 24 STATEMENTS", 24, "d20;".repeat(24));
        told("96 letters, 16 STATEMENTS of 6", 16, "s16,2;".repeat(16));
        told("95 letters, 19 STATEMENTS", 19, "n05-;".repeat(19));
        each("a STATEMENT for which the 96 letters have no room lacks its end, place 96", run -> {
            run.wall(-1096, "n05-;".repeat(19) + "n");
        });
        each("the 97th letter is refused, and the 96 ahead of it come", run -> {
            run.letters("d20;".repeat(24));
            run.refused(-6, "letter", 'x');
            run.due(24, "wall");
        });
        told("the last of 96 letters is the fault, place 95", -1095, "ll;".repeat(31) + "llx");
        told("the last of 96 letters begins what can not go on, place 95", -1095, "n05-;".repeat(19) + "x");
        told("the last STATEMENT of 96 letters is not as it must be, place 92", -2092, "d20;".repeat(23) + "d48;");
        told("the first letter of 96 is the fault, place 0", -1000, "x".repeat(96));
        told("96 times the least letter", -1000, String.valueOf((char) 0).repeat(96));
        told("96 times the greatest letter", -1000, String.valueOf((char) 255).repeat(96));
    }

    /** Each of the 256 letters at each place of each form. */
    private static void formByEachLetter() {
        for (int f = 0; f < STATEMENTS.length; f++) {
            String statement = STATEMENTS[f];
            for (int i = 0; i < statement.length(); i++) {
                String good = GOES_ON[f][i].replace("9", "0123456789");
                int place = i;
                each("letters that can stand at place " + i + " of \"" + statement + "\"",
                        run -> atPlace(statement, place, good));
                if (i > 0) {
                    String breaksOff = "\"" + statement + "\" breaks off ahead of place " + i;
                    told(breaksOff, -1000 - i, statement.substring(0, i));
                    told(breaksOff + ", behind another", -1003 - i, "ll;" + statement.substring(0, i));
                }
            }
        }
    }

    private static void atPlace(String statement, int place, String good) {
        for (int c = 0; c < 256; c++) {
            Run run = new Run();
            run.letters(statement.substring(0, place));
            run.ask("letter", c);
            run.letters(statement.substring(place + 1));
            long answer = run.ask("wall");
            String text = "letter " + c + " at " + place + " of " + statement + " answered " + answer;
            Checks.dueTrue(text, (answer == -1000 - place) == (good.indexOf(c) < 0));
        }
    }

    private static void formNumbers() {
        told("SPACE without a digit", -1001, "s,1;");
        told("SPACE of one digit", 1, "s9,1;");
        told("SPACE of two digits, the first 0", 1, "s09,1;");
        told("SPACE of three digits", -1003, "s016,1;");
        told("no BEAM behind \",\"", -1004, "s16,;");
        told("no \",\" and no BEAM", -1003, "s16;");
        told("BEAM of two digits", -1005, "s16,02;");
        told("no LAW", -1001, "l;");
        told("two LAWS", -1002, "llr;");
        told("DOOR of one digit", -1002, "d5;");
        told("DOOR of three digits", -1003, "d005;");
        told("DOOR without a digit", -1001, "d;");
        told("a TOOL and an INCH of one digit", -1003, "t05+;");
        told("a TOOL of two digits", -1004, "t0005+;");
        told("a telling without a sign", -1004, "t005;");
        told("a telling with two signs", -1005, "t005+-;");
        told("a NAIL's INCH of one digit", -1002, "n5+;");
        told("a NAIL's INCH of three digits", -1003, "n005+;");
        told("a NAIL without a sign", -1003, "n05;");
        told("a PIPE without a CHANCE", -1003, "p05;");
        told("a PIPE's CHANCE of two digits", -1004, "p0510;");
        told("a sign ahead of a number", -1001, "d-1;");
        told("no \";\" behind the only STATEMENT", -1002, "ll");
        told("no \";\" between STATEMENTS", -1002, "lllr;");
        told("no \";\" behind the last STATEMENT", -1005, "ll;lr");
        told("\";\" twice", -1003, "ll;;");
        told("\";\" alone", -1000, ";");
        told("a great letter is another letter", -1000, "LL;");
        told("a great letter of a LAW is another letter", -1001, "lL;");
        told("a space between STATEMENTS", -1003, "ll; lr;");
    }

    private static void numbersOutOfRange() {
        told("SPACE 6, the least", 1, "s6,1;");
        told("SPACE 06, the least in two digits", 1, "s06,1;");
        told("SPACE 5, below the least", -2000, "s5,1;");
        told("SPACE 05, below the least", -2000, "s05,1;");
        told("SPACE 0", -2000, "s0,1;");
        told("SPACE 24, the greatest", 1, "s24,4;");
        told("SPACE 25, above the greatest", -2000, "s25,4;");
        told("SPACE 99", -2000, "s99,4;");
        told("BEAM 1, the least", 1, "s16,1;");
        told("BEAM 0, below the least", -2000, "s16,0;");
        told("BEAM 4, the greatest", 1, "s16,4;");
        told("BEAM 5, above the greatest", -2000, "s16,5;");
        told("BEAM 9", -2000, "s16,9;");
        told("SPACE and BEAM both out of range", -2000, "s25,0;");
        told("DOOR 00, the least", 1, "d00;");
        told("DOOR 47, the greatest", 1, "d47;");
        told("DOOR 48, above the greatest", -2000, "d48;");
        told("DOOR 99", -2000, "d99;");
        told("TOOL 0 and INCH 00, the least", 1, "t000+;");
        told("TOOL 4 and INCH 47, the greatest", 1, "t447-;");
        told("TOOL 5, above the greatest", -2000, "t500+;");
        told("TOOL 9", -2000, "t947-;");
        told("a telling at 48", -2000, "t048+;");
        told("a telling at 99", -2000, "t499-;");
        told("a NAIL at 00, the least", 1, "n00-;");
        told("a NAIL at 47, the greatest", 1, "n47+;");
        told("a NAIL at 48", -2000, "n48-;");
        told("a NAIL at 99", -2000, "n99+;");
        told("a PIPE at 00 with CHANCE 0, the least", 1, "p000;");
        told("a PIPE at 47 with CHANCE 9, the greatest", 1, "p479;");
        told("a PIPE at 48", -2000, "p480;");
        told("a PIPE at 99", -2000, "p999;");
    }

    private static void nailsThatCanNotBe() {
        told("a NAIL by which all WEIGHTS would be 0, behind a NAIL", -2005, "n00+;n00-;");
        told("NAILS into WOOD that no OFFSET has both", -2005, "n00+;n02+;");
        told("NAILS into WOOD that one OFFSET has both", 2, "n00+;n01+;");
        told("the same place one SPACE further", -2005, "n00+;n16-;");
        told("the same NAILS with a SPACE that fits", 3, "s24,2;n00+;n16-;");
        told("the third of three NAILS", -2010, "n00+;n01-;n15-;");
        told("a NAIL at the door into NONE", -2003, "ld;n20-;");
        told("a NAIL behind a LAW by which there is none", -2003, "ls;n40+;");
        told("a measure between NAILS makes all WEIGHTS 1", 3, "n00+;s16,2;n00-;");
        told("a LAW between NAILS makes all WEIGHTS 1", 3, "n00+;ll;n00-;");
        told("a DOOR between NAILS makes all WEIGHTS 1", 3, "n00+;d20;n00-;");
        told("a telling between NAILS leaves WEIGHTS 0", -2011, "n00+;t000-;n00-;");
        each("a NAIL by which all WEIGHTS would be 0, behind what there was ahead of the text", run -> {
            run.ask("nail", 0, 1);
            run.wall(-2000, "n00-;");
            run.wall(-2005, "p000;n00-;");
            run.wall(2, "ll;n00-;");
        });
    }

    private static void noRoom() {
        told("6 tellings", 6, "t000+;".repeat(6));
        told("7 tellings: no room for the last", -2036, "t000+;".repeat(7));
        told("6 tellings, a measure, 6 tellings", 13, "t000+;".repeat(6) + "ll;" + "t000+;".repeat(6));
        told("6 tellings, a measure, 7 tellings", -2075, "t000+;".repeat(6) + "ll;" + "t000+;".repeat(7));
        told("6 PIPES", 6, "p000;".repeat(6));
        told("7 PIPES: no room for the last", -2030, "p000;".repeat(7));
        told("a measure makes no room for PIPES", -2033, "p000;".repeat(6) + "ll;" + "p000;");
        each("5 tellings ahead of the text: room for one", run -> {
            run.times(5, "telling", 0, 0, 1);
            run.wall(-2006, "t000+;t000+;");
            run.wall(1, "t000+;");
            run.wall(-2000, "t000+;");
            run.wall(2, "ll;t000+;");
        });
        each("5 PIPES ahead of the text: room for one", run -> {
            run.times(5, "pipe", 0, 1);
            run.wall(-2005, "p000;p000;");
            run.wall(1, "p000;");
            run.wall(-2000, "p000;");
            run.wall(-2003, "ll;p000;");
        });
    }

    private static void whichFault() {
        told("kind 1 goes ahead of a kind 2 that is earlier in the text", -1005, "n48+;x");
        told("kind 1 at the end goes ahead of kind 2", -1006, "s5,1;l");
        told("of two letters with which no WALL can go on the first", -1000, "xx");
        told("of two STATEMENTS that are not as they must be the first", -2003, "ll;d48;n48+;");
        told("good by what there was, but not behind what is ahead of it", -2010, "s6,1;n00+;n06-;");
        told("not good by what there was, but behind what is ahead of it", 3, "s6,1;n00+;n06+;");
    }

    private static void whatComes() {
        each("a measure makes all WEIGHTS 1 and USED 0; HOLES, PIPES and the ROW stay", run -> {
            for (String text : new String[] {"s16,2;", "ll;", "d20;"}) {
                run.ask("telling", 4, 3, 1);
                run.ask("nail", 9, 0);
                run.wall(1, text);
                run.due(16, "count", 0);
                run.due(1, "weight", 3);
                run.due(1, "weight", 9);
                run.due(0, "count", 1);
                run.due(2, "count", 2);
            }
        });
        each("a measure told as it was, behind a telling in the same text", run -> {
            run.wall(2, "t403+;s16,2;");
            run.due(0, "count", 1);
            run.due(1, "weight", 3);
            run.due(1, "hole", 3);
        });
        each("with a FAULT nothing of what is ahead of it comes, and nothing is counted", run -> {
            run.ask("image");
            run.ask("row", 50);
            run.ask("pipe", 5, 5);
            run.ask("telling", 0, 5, 1);
            run.wall(-2034, "s12,3;lh;d40;t400+;n01-;p009;p019;n48+;");
            run.wall(-1034, "s12,3;lh;d40;t400+;n01-;p009;p019;x");
            for (int what = 11; what <= 16; what++) {
                run.due(0, "count", what);
            }
        });
        each("with a FAULT the letters are no more, and the next wall is told anew", run -> {
            run.wall(-1002, "ll");
            run.wall(-1000, ";");
            run.wall(1, "lr;");
        });
        each("without a FAULT all of it comes onto what there was", run -> {
            run.due(0, "pipe", 7, 2);
            run.due(14, "nail", 3, 0);
            run.due(1, "telling", 0, 9, 1);
            run.wall(3, "t010+;n20-;p073;");
            run.due(2, "count", 1);
            // By 3 the OFFSETS 2 and 3 are out, by 20 the OFFSETS 3 and 4.
            run.due(13, "count", 0);
            run.due(5, "risk", 7);
            run.due(2, "count", 2);
        });
        each("\"+\" is WOOD and \"-\" is NONE, of a telling", run -> {
            run.wall(1, "t000+;");
            run.due(7, "weight", 0);
            run.due(3, "weight", 1);
            run.wall(2, "ll;t000-;");
            run.due(3, "weight", 0);
            run.due(7, "weight", 1);
        });
        each("\"+\" is WOOD and \"-\" is NONE, of a NAIL", run -> {
            run.wall(1, "n00+;");
            run.due(2, "count", 0);
            run.wall(2, "ll;n00-;");
            run.due(14, "count", 0);
        });
        each("the letters of the LAWS", run -> {
            for (int law = 0; law < 6; law++) {
                run.wall(1, "l" + "lrdchs".charAt(law) + ";");
                run.due(law, "count", 7);
            }
        });
        each("letters stay behind all calls but wall()", run -> {
            run.ask("image");
            run.letters("lr");
            run.ask("set", 0, 12);
            run.ask("judge");
            run.ask("on");
            run.ask("fill");
            run.letters(";");
            run.due(1, "wall");
            run.due(1, "count", 7);
        });
    }
}
