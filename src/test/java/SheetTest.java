/** Promises 32 to 36: sheets, what is read of them, and counts. */
public final class SheetTest {
    private static final int BAD = NothingLeft.BAD, NONE = NothingLeft.NONE;
    private static final int NULL = 1, INDEX = 2, CAST = 3;

    public static void main(String[] args) {
        sheet();
        lay();
        lowestBits();
        read();
        readWrong();
        readOfNone();
        readNothingAndCast();
        readBehindTheEnd();
        readRefused();
        readFirstMet();
        torn();
        count();
        Check.finish("SheetTest");
    }

    private static void cells(NothingLeft x, int k, int lane, int... cells) {
        Check.due("sheet", x.sheet(k, lane, cells.length), 1);
        for (int i = 0; i < cells.length; i++) {
            Check.due("lay", x.lay(k, i, cells[i]), 1);
        }
    }

    private static void readIs(NothingLeft x, int k, int lane, int f, int n, int told, int torn) {
        String name = "read(" + k + ", " + lane + ", " + f + ", " + n + ")";
        Check.due(name, x.read(k, lane, f, n), told);
        Check.due("torn behind " + name, x.torn(), torn);
    }

    private static void sheet() {
        NothingLeft x = Check.told("thing 4 1 1;");
        Check.due("sheet 0", x.sheet(0, 0, 0), 1);
        Check.due("no cells", x.count(5), 0);
        Check.due("lay in none", x.lay(0, 0, 1), -12);
        Check.due("sheet 3", x.sheet(3, 2, 40), 1);
        Check.due("sheet 0 has as many as it had", x.count(5), 0);
        Check.due("40 cells", x.lay(3, 39, 1), 1);
        Check.due("41 cells", x.sheet(0, 0, 41), BAD);
        Check.due("sheet 4", x.sheet(4, 0, 1), BAD);
        Check.due("sheet -1", x.sheet(-1, 0, 1), BAD);
        Check.due("lane 3", x.sheet(0, 3, 1), BAD);
        Check.due("lane -1", x.sheet(0, -1, 1), BAD);
        Check.due("below 0", x.sheet(0, 0, -1), -14);
        Check.due("far below 0", x.sheet(0, 0, Integer.MIN_VALUE), -14);
        Check.due("no such sheet is ahead", x.sheet(4, 0, -1), BAD);
        Check.due("no such lane is ahead", x.sheet(0, 3, -1), BAD);
        Check.due("nothing changed", x.count(5), 0);
        Check.due("none is made", x.sheet(1, 0, -1), -14);
        Check.due("none is there", x.lay(1, 0, 1), -11);
        cells(x, 0, 2, 0, 3, 7);
        x.sheet(0, 2, 3);
        readIs(x, 0, 2, 0, 1, 1, 0);
        Check.due("a new row has cells 0", x.has(0, 3), 0);
        cells(x, 0, 2, 1, 3, 7);
        x.sheet(0, 2, 3);
        readIs(x, 0, 2, 0, 1, 1, 0);
    }

    private static void lay() {
        NothingLeft x = new NothingLeft();
        x.sheet(2, 0, 5);
        Check.due("lay", x.lay(2, 4, 1), 1);
        Check.due("lay", x.lay(2, 0, Integer.MAX_VALUE), 1);
        Check.due("index 5", x.lay(2, 5, 1), -12);
        Check.due("index -1", x.lay(2, -1, 1), -12);
        Check.due("index far", x.lay(2, Integer.MIN_VALUE, 1), -12);
        Check.due("nothing", x.lay(1, 0, 1), -11);
        Check.due("nothing, whatever the index", x.lay(1, -7, 1), -11);
        Check.due("sheet 4", x.lay(4, 0, 1), BAD);
        Check.due("sheet -1", x.lay(-1, 0, 1), BAD);
    }

    private static void lowestBits() {
        NothingLeft x = Check.told("thing 4 1 1;");
        cells(x, 0, 0, 256, 512 + 3, -256 + 7);
        readIs(x, 0, 0, 0, 1, 1, 0);
        Check.due("bytes", x.has(0, 3), 7);
        cells(x, 1, 1, 65536, -65536 + 2, 131072 + 5);
        readIs(x, 1, 1, 0, 1, 1, 0);
        Check.due("shorts", x.has(0, 2), 5);
        cells(x, 1, 1, 256, 2, 5);
        Check.due("a short of 256", x.read(1, 1, 0, 1), -20);
        cells(x, 2, 2, 65536, 2, 5);
        Check.due("an int of 65536", x.read(2, 2, 0, 1), -20);
        cells(x, 0, 0, 0, 0, 128);
        Check.due("a byte of 128 is below 0", x.read(0, 0, 0, 1), -20);
        cells(x, 0, 0, 0, 0, 255);
        Check.due("a byte of 255 is below 0", x.read(0, 0, 0, 1), -20);
        cells(x, 1, 1, 0, 0, 65535);
        Check.due("a short of 65535 is below 0", x.read(1, 1, 0, 1), -20);
        cells(x, 2, 2, 0, 0, 9);
        readIs(x, 2, 2, 0, 1, 1, 0);
        Check.due("an int", x.has(0, 0), 9);
    }

    private static void read() {
        NothingLeft x = Check.told("thing 4 1 1;thing 2 1 1;");
        cells(x, 3, 1, 9, 0, 2, 4, 1, 1, 5, 0, 2, 6, 9);
        x.put(1, 0, 8);
        readIs(x, 3, 1, 1, 3, 3, 0);
        Check.due("told twice: the last", x.has(0, 2), 6);
        Check.due("told", x.has(1, 1), 5);
        Check.due("not told", x.has(1, 0), 8);
        Check.due("from elsewhere it is no lot", x.read(3, 1, 0, 1), -20);
        int[] twelve = new int[36];
        for (int i = 0; i < 12; i++) {
            twelve[3 * i + 1] = i % 4;
            twelve[3 * i + 2] = i % 10;
        }
        cells(x, 0, 0, twelve);
        readIs(x, 0, 0, 0, 12, 12, 0);
        Check.due("lot 11", x.has(0, 3), 1);
        Check.due("lot 9", x.has(0, 1), 9);
    }

    private static void readWrong() {
        NothingLeft x = Check.told("thing 4 1 1;");
        cells(x, 0, 0, 0, 0, 1);
        readIs(x, 1, 0, 0, 1, 0, NULL);
        readIs(x, 4, 0, 0, 1, BAD, NULL);
        readIs(x, -1, 0, 0, 1, BAD, NULL);
        readIs(x, 0, 3, 0, 1, BAD, NULL);
        readIs(x, 0, -1, 0, 1, BAD, NULL);
        readIs(x, 0, 0, 0, 13, BAD, NULL);
        readIs(x, 0, 0, 0, -1, BAD, NULL);
        readIs(x, 4, 0, 0, 0, BAD, NULL);
        Check.due("nothing told", x.now(5), 0);
    }

    private static void readOfNone() {
        NothingLeft x = Check.told("thing 4 1 1;");
        readIs(x, 0, 0, 0, 1, 0, NULL);
        readIs(x, 0, 0, 0, 0, 0, 0);
        x.sheet(0, 0, 3);
        readIs(x, 0, 1, 0, 1, 0, CAST);
        readIs(x, 0, 1, -5, 0, 0, 0);
        readIs(x, 0, 0, 99, 0, 0, 0);
    }

    private static void readNothingAndCast() {
        NothingLeft x = Check.told("thing 4 1 1;");
        for (int lane = 0; lane < 3; lane++) {
            readIs(x, lane, lane, 0, 1, 0, NULL);
            cells(x, lane, lane, 0, 0, lane + 1);
            for (int other = 0; other < 3; other++) {
                readIs(x, lane, other, 0, 1, other == lane ? 1 : 0, other == lane ? 0 : CAST);
            }
            Check.due("told", x.has(0, 0), lane + 1);
        }
        readIs(x, 0, 1, -1, 1, 0, CAST);
    }

    private static void readBehindTheEnd() {
        NothingLeft x = Check.told("thing 4 1 1;");
        cells(x, 0, 0, 0, 0, 1, 0, 1, 2, 0, 2);
        readIs(x, 0, 0, 0, 3, 2, INDEX);
        Check.due("whole ones ahead are told", x.has(0, 0) * 10 + x.has(0, 1), 12);
        readIs(x, 0, 0, -1, 3, 0, INDEX);
        readIs(x, 0, 0, -3, 3, 0, INDEX);
        readIs(x, 0, 0, 6, 1, 0, INDEX);
        readIs(x, 0, 0, 8, 1, 0, INDEX);
        readIs(x, 0, 0, Integer.MAX_VALUE, 12, 0, INDEX);
        readIs(x, 0, 0, Integer.MAX_VALUE - 2, 12, 0, INDEX);
        readIs(x, 0, 0, Integer.MIN_VALUE, 12, 0, INDEX);
        readIs(x, 0, 0, 3, 1, 1, 0);
        x.sheet(0, 0, 0);
        readIs(x, 0, 0, 0, 1, 0, INDEX);
    }

    private static void readRefused() {
        NothingLeft x = Check.told("thing 2 1 1;");
        int[][] lots = { { 1, 0, 1 }, { -1, 0, 1 }, { 0, 2, 1 }, { 0, -1, 1 }, { 0, 0, 10 }, { 0, 0, -1 } };
        readIs(x, 3, 0, 0, 1, 0, NULL);
        for (int[] lot : lots) {
            cells(x, 0, 2, lot);
            readIs(x, 0, 2, 0, 1, -20, NULL);
            cells(x, 0, 2, 0, 0, 5, lot[0], lot[1], lot[2]);
            readIs(x, 0, 2, 0, 2, -21, NULL);
            Check.due("none is told", x.now(5), 0);
        }
        cells(x, 0, 0, new int[36]);
        for (int i = 0; i < 12; i++) {
            x.lay(0, 3 * i, 1);
            Check.due("lot " + i, x.read(0, 0, 0, 12), -20 - i);
            x.lay(0, 3 * i, 0);
        }
    }

    private static void readFirstMet() {
        NothingLeft x = Check.told("thing 2 1 1;");
        cells(x, 0, 0, 0, 0, 5, 0, 7, 1, 0);
        readIs(x, 0, 0, 0, 3, -21, 0);
        readIs(x, 0, 0, 3, 2, -20, 0);
        Check.due("none is told", x.now(5), 0);
        cells(x, 0, 0, 0, 0, 5, 0, 7);
        readIs(x, 0, 0, 0, 3, 1, INDEX);
        Check.due("a lot that is not whole is not looked at", x.has(0, 0), 5);
        readIs(x, 0, 0, 1, 2, -20, INDEX);
    }

    private static void torn() {
        NothingLeft x = Check.told("thing 2 1 1;");
        Check.due("at first", x.torn(), 0);
        x.read(0, 0, 0, 1);
        Check.due("null", x.torn(), NULL);
        x.sheet(0, 0, 2);
        Check.due("stays till read", x.torn(), NULL);
        x.read(0, 0, 0, 1);
        Check.due("index", x.torn(), INDEX);
        x.read(0, 2, 0, 1);
        Check.due("cast", x.torn(), CAST);
        x.sheet(0, 0, 3);
        x.read(0, 0, 0, 1);
        Check.due("none", x.torn(), 0);
    }

    private static void count() {
        NothingLeft x = Check.told("thing 2 1 1;thing 2 1 1;first;first;first;");
        x.day(0);
        x.keep(1);
        x.feed(0);
        x.end(5);
        x.sheet(0, 0, 6);
        int[] due = { 2, 3, 1, 1, 5, 6 };
        for (int what = 0; what < due.length; what++) {
            Check.due("count " + what, x.count(what), due[what]);
        }
        x.keep(0);
        x.keep(0);
        Check.due("two images", x.count(3), 2);
        for (int what : new int[] { -1, 6, Integer.MAX_VALUE, Integer.MIN_VALUE }) {
            Check.due("count " + what, x.count(what), BAD);
        }
        NothingLeft y = new NothingLeft();
        y.sheet(1, 0, 6);
        Check.due("cells of sheet 0 alone", y.count(5), NONE);
    }
}
