/** The texts of CELLARS and PLAYS, their FAULTS, and blanks in all texts. */
final class TextEdges {
    private static final int NONE = Edge.NONE;
    private static final String LETTERS = "ABCDEFGH";
    private static final String DIGITS = "0123456789";

    private final Edge edge;

    private TextEdges(Edge edge) {
        this.edge = edge;
    }

    static void all(Edge edge) {
        TextEdges edges = new TextEdges(edge);
        edge.terms();
        edges.rows();
        edges.lengths();
        edges.signs();
        edges.places();
        edges.cues();
        edges.numbers();
        edges.blanks();
        edges.faultsOfCellars();
        edges.faultsOfPlays();
    }

    /** A right text of so many rows, without START and CRANK but in the first. */
    private static String rows(int rows, int columns) {
        return "*A" + Edge.times(columns - 2, ".") + Edge.times(rows - 1, "/" + Edge.times(columns, "."));
    }

    private void rows() {
        edge.says("A CELLAR is a TEXT: ROWS (1 .. 6) with / between");
        edge.fault(0, "", 0);
        for (int rows = 1; rows <= 6; rows++) {
            for (int columns : new int[] {2, 3, 9}) {
                edge.fault(0, rows(rows, columns), NONE);
                UnderFloor floor = Kit.floor(rows(rows, columns));
                edge.due("the last of " + rows + " rows", floor.at(10 * rows - 10), rows == 1 ? 2 : 0);
                edge.due("one row beyond " + rows, floor.at(10 * rows), NONE);
            }
        }
        for (int columns = 2; columns <= 9; columns++) {
            edge.fault(0, rows(7, columns), 6 * columns + 5);
            edge.fault(0, rows(6, columns) + "/", 6 * columns + 5);
        }
        edge.fault(0, "/*A", 0);
        edge.fault(0, "*A//..", 3);
        edge.fault(0, "*A/../", 6);
    }

    private void lengths() {
        edge.says(", of 2 .. 9 PLACES, all of one length: ");
        edge.fault(0, "*", 1);
        edge.fault(0, "*/A", 1);
        for (int columns = 2; columns <= 9; columns++) {
            edge.fault(0, rows(1, columns), NONE);
            UnderFloor floor = Kit.floor(rows(2, columns));
            edge.due("the last of " + columns, floor.at(columns - 1), columns == 2 ? 3 : 0);
            edge.due("one beyond " + columns, floor.at(columns), NONE);
            edge.due("the last of the next row", floor.at(10 + columns - 1), 0);
            edge.due("one beyond the next row", floor.at(10 + columns), NONE);
            String shorter = rows(1, columns) + "/" + Edge.times(columns - 1, ".");
            edge.fault(0, shorter, shorter.length());
            edge.fault(0, shorter + "/" + Edge.times(columns, "."), shorter.length());
            edge.fault(0, shorter + "..", shorter.length() + 1);
        }
        edge.fault(0, rows(1, 10), 9);
        edge.fault(0, rows(1, 11), 9);
        edge.fault(0, rows(6, 10), 9);
    }

    private void signs() {
        edge.says("a dot (free), # (a POST), A .. H (a CRANK, each once at most), * (the START, just one)");
        edge.behind(0, "*A", ".#BCDEFGH ", "/");
        edge.behind(0, "*A/", "", ".#BCDEFGH ");
        edge.behind(0, "", "", ".#*" + LETTERS + " ");
        UnderFloor all = Kit.floor("*.#/ABC/DEF/GH.");
        int[] at = {2, 0, 1, 3, 4, 5, 6, 7, 8, 9, 10, 0};
        for (int i = 0; i < at.length; i++) {
            edge.due("at of the signs", all.at(10 * (i / 3) + i % 3), at[i]);
        }
        for (char letter : LETTERS.toCharArray()) {
            edge.fault(0, "*" + letter, NONE);
            edge.fault(0, "*" + letter + letter, 2);
            edge.fault(0, "*" + letter + "/." + letter, 4);
        }
        edge.fault(0, "*ABCDEFGH", NONE);
        edge.fault(0, "A.", 2);
        edge.fault(0, "A*", NONE);
        edge.fault(0, "A**", 2);
        edge.fault(0, "A*/*.", 3);
        edge.fault(0, "A./.*", NONE);
        edge.says("; one CRANK at least.");
        edge.fault(0, "*.", 2);
        edge.fault(0, "*#/##", 5);
        edge.fault(0, "*#/#H", NONE);
    }

    private void places() {
        edge.says("A PLACE is told as 10 times its ROW and its COLUMN (from 0).");
        UnderFloor floor = Kit.floor("*.......A/........./........./........./........./B.......C");
        edge.due("the first", floor.at(0), 2);
        int[] corners = {8, 50, 58};
        for (int crank = 0; crank < 3; crank++) {
            edge.due("crank in a corner", Kit.crank(floor, crank), corners[crank]);
            edge.due("at a corner", floor.at(corners[crank]), 3 + crank);
        }
        int told = 0;
        for (int place = -70; place <= 130; place++) {
            boolean inside = place >= 0 && place < 60 && place % 10 != 9;
            edge.due("is there a place " + place, floor.at(place) != NONE, inside);
            told += floor.at(place) != NONE ? 1 : 0;
        }
        edge.due("places of the greatest", told, 54);
    }

    private static String cues(int cues) {
        return Edge.times(cues, ",A7").substring(1);
    }

    private void cues() {
        edge.says("A PLAY (5 at most) is a TEXT: CUES with , between (1 .. 8)");
        edge.fault(1, "", 0);
        edge.fault(1, ",", 0);
        for (int cues = 1; cues <= 8; cues++) {
            edge.fault(1, cues(cues), NONE);
            edge.fault(1, cues(cues) + ",", cues == 8 ? 23 : 3 * cues);
            UnderFloor floor = new UnderFloor();
            edge.due("text", Kit.text(floor, 1, cues(cues)), 0);
            edge.due("how many", floor.cue(0, NONE, 0), cues);
            edge.due("the last", floor.cue(0, cues - 1, 1), 7);
            edge.due("one beyond", floor.cue(0, cues, 1), NONE);
        }
        edge.fault(1, cues(9), 23);
        edge.fault(1, cues(10), 23);
        UnderFloor five = new UnderFloor();
        for (int play = 0; play < 5; play++) {
            edge.due("a play", Kit.text(five, 1, cues(1 + play)), play);
        }
        edge.due("a sixth", Kit.text(five, 1, cues(1)), NONE);
        edge.due("how many plays", five.count(1), 5);
    }

    private void numbers() {
        edge.says(": a letter A .. H and a number (one to three digits");
        edge.behind(1, "", "", LETTERS + " ");
        edge.behind(1, "A1,", "", LETTERS + " ");
        edge.behind(1, "A", DIGITS, " ");
        edge.behind(1, "A1", DIGITS + " ", ",");
        edge.behind(1, "A12", DIGITS + " ", ",");
        edge.behind(1, "A123", " ", ",");
        edge.behind(1, "A1 ", " ", ",");
        for (String number : new String[] {"0", "9", "00", "10", "99", "000", "001", "100", "999"}) {
            UnderFloor floor = new UnderFloor();
            edge.due("play with " + number, Kit.text(floor, 1, "A" + number + ",H999"), 0);
            edge.due("number " + number, floor.cue(0, 0, 1), Integer.parseInt(number));
            edge.due("the second number", floor.cue(0, 1, 1), 999);
            edge.due("the first crank", floor.cue(0, 0, 0), 0);
            edge.due("the second crank", floor.cue(0, 1, 0), 7);
            edge.fault(1, "A" + number + "0000", 4);
        }
        edge.says("; no less than that of the CUE ahead).");
        for (String equal : new String[] {"A0,B0", "A999,B999", "A7,B007", "A007,B7", "A9,B10", "A99,B100"}) {
            edge.fault(1, equal, NONE);
        }
        edge.fault(1, "A5,B7,C6", 7);
        edge.fault(1, "A5,B7,C7,D5", 10);
    }

    /** With a blank put in at each byte: inside a number the digit behind it is the FAULT, elsewhere there is none. */
    private void blankAtEach(int sort, String text) {
        edge.fault(sort, text, NONE);
        for (int at = 0; at <= text.length(); at++) {
            boolean inside = at > 0 && at < text.length() && DIGITS.indexOf(text.charAt(at - 1)) >= 0
                && DIGITS.indexOf(text.charAt(at)) >= 0;
            for (String blanks : new String[] {" ", "   "}) {
                String put = text.substring(0, at) + blanks + text.substring(at);
                edge.fault(sort, put, inside ? at + blanks.length() : NONE);
            }
        }
    }

    private void blanks() {
        edge.says("Blanks (32) may stand between all signs, not within numbers.");
        blankAtEach(0, "*A.#/BCDE/...#");
        blankAtEach(1, "A1,B12");
        blankAtEach(1, "A1,C2,H456");
        blankAtEach(2, "y:t=12&!(k<345|[n+1]>l*2)?6789/c;y:1-23");
        String[] texts = {"*A./...", "A1,B2", "y:t=1?2;y:3"};
        for (int sort = 0; sort < 3; sort++) {
            for (char other : new char[] {1, 9, 10, 13, 31, 34, 127, 160, 255}) {
                for (int at = 0; at <= texts[sort].length(); at++) {
                    edge.fault(sort, texts[sort].substring(0, at) + other + texts[sort].substring(at), at);
                }
            }
            edge.fault(sort, " ", 1);
            edge.fault(sort, Edge.times(160, " "), 160);
            edge.fault(sort, texts[sort] + Edge.times(160 - texts[sort].length(), " "), NONE);
            edge.fault(sort, Edge.times(160 - texts[sort].length(), " ") + texts[sort], NONE);
        }
        UnderFloor floor = Kit.floor(" * A / . B ", " A 1 , B 22 ");
        Kit.text(floor, 2, " y : k = 1 ? 3 ; y : 4 ");
        floor.set(2, 0);
        edge.due("a crank behind blanks", Kit.crank(floor, 1), 11);
        edge.due("a number behind blanks", floor.cue(0, 1, 1), 22);
        edge.due("a time by a law with blanks", floor.cue(0, 1, 2), 22 + 3);
    }

    private void faultsOfCellars() {
        edge.says("FAULT: the first byte at which no such TEXT can go on"
            + " (the length, if it ends too early; of a CELLAR also without START or a CRANK, or with a last ROW too short): ");
        edge.beginnings(0, "*A./#B.", 2, 3, 7);
        edge.beginnings(0, ".A/B*", 5);
        edge.beginnings(0, "..*/H..", 7);
        edge.beginnings(1, "A1,B23", 2, 5, 6);
        edge.fault(0, "..", 2);
        edge.fault(0, ".. ", 3);
        edge.fault(0, "../../../../../..", 17);
        edge.fault(0, "*A/.", 4);
        edge.fault(0, "*A/. ", 5);
        edge.fault(0, "*A/", 3);
        edge.fault(0, "*A?B?", 2);
        edge.fault(0, "..?", 2);
        edge.fault(0, "*A/.?", 4);
        edge.fault(1, "A1?,B?", 2);
        edge.says("a tenth PLACE of the first ROW");
        for (char sign : ".#*AB".toCharArray()) {
            edge.fault(0, "*A......." + sign, 9);
            edge.fault(0, "*A ....... " + sign, 11);
        }
        edge.says(", one too many of another");
        for (char sign : ".#*AB".toCharArray()) {
            edge.fault(0, "*A/.." + sign, 5);
            edge.fault(0, "*A./.../..." + sign, 11);
            edge.fault(0, rows(6, 9) + sign, 59);
        }
        edge.says(", the / of a ROW too short");
        edge.fault(0, "*/", 1);
        edge.fault(0, "*A/./..", 4);
        edge.fault(0, "*A./.. /...", 7);
        edge.fault(0, "*A../../", 7);
        edge.says(", of a seventh ROW");
        edge.fault(0, rows(6, 2) + "/", 17);
        edge.fault(0, rows(6, 2) + " /..", 18);
        edge.fault(0, "../../../../../../*A", 17);
        edge.says(", a CRANK that was there");
        edge.fault(0, "*AA", 2);
        edge.fault(0, "*ABA", 3);
        edge.fault(0, "*A/BC/HA", 7);
        edge.says(", a second *");
        edge.fault(0, "**", 1);
        edge.fault(0, "*A*", 2);
        edge.fault(0, ".A/.*/*.", 6);
    }

    private void faultsOfPlays() {
        edge.says(", a number less than the one ahead at its last digit");
        edge.fault(1, "A1,B0", 4);
        edge.fault(1, "A10,B9", 5);
        edge.fault(1, "A10,B09", 6);
        edge.fault(1, "A100,B99", 7);
        edge.fault(1, "A100,B099", 8);
        edge.fault(1, "A999,B998", 8);
        edge.fault(1, "A999,B998,C1", 8);
        edge.fault(1, "A999,B998 ,C1", 8);
        edge.fault(1, "A999,B99x", 7);
        edge.fault(1, "A12,B3?", 5);
        edge.says(", a fourth digit");
        edge.fault(1, "A1234", 4);
        edge.fault(1, "A0000", 4);
        edge.fault(1, "A0001,B2", 4);
        edge.fault(1, "A100,B1000", 9);
        edge.fault(1, "A12,B34,C5678", 12);
        edge.says(", the , ahead of a ninth CUE");
        edge.fault(1, "A1,B2,C3,D4,E5,F6,G7,H8,", 23);
        edge.fault(1, "A1,B2,C3,D4,E5,F6,G7,H8 ,A9", 24);
        edge.fault(1, "A100,B200,C300,D400,E500,F600,G700,H800,A900", 39);
    }
}
