import java.util.Arrays;

/** Promises 32 to 36, and what the document's terms say of SHEETS: each sentence that names an edge, above its test. */
public final class SheetEdgeTest {
    private static final int BAD = NothingLeft.BAD, NONE = NothingLeft.NONE;
    private static final int NULL = 1, INDEX = 2, CAST = 3;

    public static void main(String[] args) {
        sheetsAndLanes();
        cellsUpTo40();
        badAheadOfSize();
        sheetIsNew();
        layByIndex();
        layInNothing();
        lowestBitsOfBytes();
        lowestBitsOfShorts();
        lowestBitsOfInts();
        lowestBitsOfThingsAndAges();
        readLots();
        readFromCell();
        readFarFromAnyCell();
        readWholeOnesAhead();
        readOfNone();
        readNullAheadOfCast();
        readCastAheadOfIndex();
        readBad();
        readRefusedByPut();
        readFirstMet();
        readOneBehindAnother();
        readWithoutThings();
        tornOfLatest();
        countAsked();
        Check.finish("SheetEdgeTest");
    }

    private static void cells(NothingLeft x, int k, int lane, int... cells) {
        Check.due("sheet", x.sheet(k, lane, cells.length), 1);
        for (int i = 0; i < cells.length; i++) {
            Check.due("lay", x.lay(k, i, cells[i]), 1);
        }
    }

    private static void readIs(NothingLeft x, int k, int lane, int f, int n, int told, int torn) {
        String name = "read(" + k + ", " + lane + ", " + f + ", " + n + ")";
        Check.due(name, x.read(k, lane, f, n), told);
        Check.due("torn behind " + name, x.torn(), torn);
    }

    // "SHEETS 0 to 3 are rows of BYTES (lane 0), SHORTS (1), INTS (2)"
    private static void sheetsAndLanes() {
        NothingLeft x = Check.told("thing 4 1 1;");
        for (int k = 0; k <= 3; k++) {
            for (int lane = 0; lane <= 2; lane++) {
                cells(x, k, lane, 0, k, lane);
                readIs(x, k, lane, 0, 1, 1, 0);
                Check.due("told", x.has(0, k), lane);
            }
        }
        for (int k : Check.outside(0, 3)) {
            Check.due("sheet " + k, x.sheet(k, 0, 1), BAD);
        }
        for (int lane : Check.outside(0, 2)) {
            Check.due("lane " + lane, x.sheet(0, lane, 1), BAD);
        }
        readIs(x, 0, 2, 0, 1, 1, 0);
    }

    // "with 0 to 40 CELLS"; "BAD: also n above 40; -14 (SIZE): n below 0"
    private static void cellsUpTo40() {
        for (int lane = 0; lane <= 2; lane++) {
            NothingLeft x = new NothingLeft();
            for (int n = 0; n <= 40; n++) {
                Check.due("sheet of " + n, x.sheet(0, lane, n), 1);
                Check.due("its cells", x.count(5), n);
                Check.due("its last cell", x.lay(0, n - 1, 1), n == 0 ? -12 : 1);
                Check.due("the next one", x.lay(0, n, 1), -12);
            }
            for (int n : Check.outside(0, 40)) {
                Check.due("sheet of " + n, x.sheet(0, lane, n), n < 0 ? -14 : BAD);
                Check.due("cells stay", x.count(5), 40);
            }
        }
    }

    // "the first that fits"
    private static void badAheadOfSize() {
        NothingLeft x = new NothingLeft();
        for (int n : new int[] { -1, Integer.MIN_VALUE }) {
            Check.due("sheet -1 of " + n, x.sheet(-1, 0, n), BAD);
            Check.due("sheet 4 of " + n, x.sheet(4, 0, n), BAD);
            Check.due("lane -1 of " + n, x.sheet(0, -1, n), BAD);
            Check.due("lane 3 of " + n, x.sheet(0, 3, n), BAD);
            Check.due("sheet 3, lane 2 of " + n, x.sheet(3, 2, n), -14);
        }
        Check.due("no sheet", x.count(5), NONE);
        Check.due("no sheet", x.lay(3, 0, 0), -11);
    }

    // "A SHEET is a new row of CELLS 0"
    private static void sheetIsNew() {
        NothingLeft x = Check.told("thing 4 1 1;thing 4 1 1;");
        for (int k = 0; k <= 3; k++) {
            int[] ones = new int[40];
            Arrays.fill(ones, 1);
            cells(x, k, 0, ones);
            x.sheet(k, 2, 40);
            for (int i = 0; i <= 37; i += i == 36 ? 1 : 3) {
                x.put(0, 0, 5);
                readIs(x, k, 2, i, 1, 1, 0);
                Check.due("cells are 0", x.has(0, 0), 0);
                Check.due("nothing else is told", x.now(5), 0);
            }
            readIs(x, k, 0, 0, 1, 0, CAST);
            x.sheet(k, 2, 3);
            readIs(x, k, 2, 3, 1, 0, INDEX);
        }
    }

    // "-10 less the FAULT: NULL, INDEX."
    private static void layByIndex() {
        for (int n : new int[] { 0, 1, 2, 39, 40 }) {
            NothingLeft x = new NothingLeft();
            x.sheet(3, 1, n);
            for (int i = 0; i < n; i++) {
                Check.due("cell " + i + " of " + n, x.lay(3, i, i), 1);
            }
            for (int i : Check.outside(0, n - 1)) {
                Check.due("cell " + i + " of " + n, x.lay(3, i, 1), -12);
            }
        }
        NothingLeft x = Check.told("thing 4 1 1;");
        x.sheet(0, 2, 40);
        x.sheet(1, 2, 40);
        x.sheet(2, 2, 40);
        Check.due("behind the last cell of sheet 0", x.lay(0, 40, 9), -12);
        Check.due("ahead of the first cell of sheet 2", x.lay(2, -1, 9), -12);
        readIs(x, 1, 2, 0, 12, 12, 0);
        readIs(x, 1, 2, 37, 1, 1, 0);
        Check.due("sheet 1 has cells 0 yet", x.now(5), 0);
    }

    // "BAD: k; .. NULL"
    private static void layInNothing() {
        NothingLeft x = new NothingLeft();
        for (int k : Check.outside(0, 3)) {
            Check.due("sheet " + k, x.lay(k, 0, 1), BAD);
        }
        for (int k = 0; k <= 3; k++) {
            for (int i : new int[] { -1, 0, 39, 40, Integer.MAX_VALUE, Integer.MIN_VALUE }) {
                Check.due("cell " + i + " of nothing", x.lay(k, i, 1), -11);
            }
        }
        Check.due("nothing is nothing yet", x.count(5), NONE);
    }

    /** What is laid is told as units: from 0 to 9 they are taken, others are refused. */
    private static void laid(NothingLeft x, int lane, int v, int cell) {
        Check.due("lay", x.lay(0, 2, v), 1);
        x.put(0, 1, 0);
        Check.due(v + " in lane " + lane, x.read(0, lane, 0, 1), cell >= 0 && cell <= 9 ? 1 : -20);
        Check.due("units", x.has(0, 1), cell >= 0 && cell <= 9 ? cell : 0);
    }

    // "CELL i of a SHEET becomes v (its lowest bits)"; "all with a sign"
    private static void lowestBitsOfBytes() {
        NothingLeft x = Check.told("thing 4 1 1;");
        cells(x, 0, 0, 0, 1, 0);
        int[] laid = { 0, 1, 9, 10, -1, 127, 128, 129, 137, -128, -129, -127, 255, 256, 257, 265, 266, 511, 512, -256, -255, -247, -246,
            32768, 65536, 65545, 1 << 24, 1 << 31, Integer.MAX_VALUE, Integer.MIN_VALUE + 9, Integer.MIN_VALUE + 255 };
        int[] cell = { 0, 1, 9, 10, -1, 127, -128, -127, -119, -128, 127, -127, -1, 0, 1, 9, 10, -1, 0, 0, 1, 9, 10,
            0, 0, 9, 0, 0, -1, 9, -1 };
        for (int i = 0; i < laid.length; i++) {
            laid(x, 0, laid[i], cell[i]);
        }
    }

    private static void lowestBitsOfShorts() {
        NothingLeft x = Check.told("thing 4 1 1;");
        cells(x, 0, 1, 0, 1, 0);
        int[] laid = { 0, 9, 10, -1, 255, 256, 265, 32767, 32768, 32777, -32768, -32769, 65535, 65536, 65537, 65545, 65546, -65536, -65527,
            1 << 24, 1 << 31, Integer.MAX_VALUE, Integer.MIN_VALUE + 9, 65536 + 256 };
        int[] cell = { 0, 9, 10, -1, 255, 256, 265, 32767, -32768, -32759, -32768, 32767, -1, 0, 1, 9, 10, 0, 9,
            0, 0, -1, 9, 256 };
        for (int i = 0; i < laid.length; i++) {
            laid(x, 1, laid[i], cell[i]);
        }
    }

    private static void lowestBitsOfInts() {
        NothingLeft x = Check.told("thing 4 1 1;");
        cells(x, 0, 2, 0, 1, 0);
        for (int v : new int[] { 0, 9, 10, -1, 128, 255, 256, 265, -247, 32768, 65536, 65545, -65527, 1 << 24, 1 << 31, Integer.MAX_VALUE,
            Integer.MIN_VALUE + 9 }) {
            laid(x, 2, v, v);
        }
    }

    private static void lowestBitsOfThingsAndAges() {
        NothingLeft x = Check.told("thing 1 1 1;thing 4 1 1;");
        cells(x, 0, 0, 257, 256 + 3, 5);
        readIs(x, 0, 0, 0, 1, 1, 0);
        Check.due("thing 1, age 3", x.has(1, 3), 5);
        cells(x, 1, 1, 65537, -65536 + 2, 6);
        readIs(x, 1, 1, 0, 1, 1, 0);
        Check.due("thing 1, age 2", x.has(1, 2), 6);
        cells(x, 2, 2, 1 << 30, 0, 7);
        readIs(x, 2, 2, 0, 1, -20, 0);
        cells(x, 2, 2, 1, 1 << 30, 7);
        readIs(x, 2, 2, 0, 1, -20, 0);
        Check.due("nothing else", x.now(5), 11);
    }

    // "n (0 to 12) lots"; "how many were told"
    private static void readLots() {
        NothingLeft x = Check.told("thing 4 1 1;thing 4 1 1;thing 4 1 1;");
        int[] lots = new int[36];
        for (int i = 0; i < 12; i++) {
            lots[3 * i] = i / 4;
            lots[3 * i + 1] = i % 4;
            lots[3 * i + 2] = 1 + i % 9;
        }
        cells(x, 2, 2, lots);
        for (int n = 0; n <= 12; n++) {
            readIs(x, 2, 2, 0, n, n, 0);
            for (int i = 0; i < 12; i++) {
                Check.due("lot " + i + " of " + n, x.put(i / 4, i % 4, 0), i < n ? 1 + i % 9 : 0);
            }
        }
        for (int n : Check.outside(0, 12)) {
            Check.due("read of " + n, x.read(2, 2, 0, n), BAD);
        }
    }

    // "three CELLS each from CELL f on"
    private static void readFromCell() {
        for (int size = 0; size <= 40; size += size < 10 ? 1 : 10) {
            NothingLeft x = Check.told("thing 4 1 1;");
            x.sheet(1, 1, size);
            for (int f = 0; f <= 41; f++) {
                int whole = f > size ? 0 : Math.min(12, (size - f) / 3);
                readIs(x, 1, 1, f, 12, whole, whole == 12 ? 0 : INDEX);
            }
        }
        NothingLeft x = Check.told("thing 4 1 1;");
        x.sheet(1, 1, 40);
        readIs(x, 1, 1, 4, 12, 12, 0);
        readIs(x, 1, 1, 5, 12, 11, INDEX);
        readIs(x, 1, 1, 37, 1, 1, 0);
        readIs(x, 1, 1, 38, 1, 0, INDEX);
    }

    private static void readFarFromAnyCell() {
        for (int size : new int[] { 0, 3, 36, 40 }) {
            NothingLeft x = Check.told("thing 4 1 1;");
            x.sheet(0, 0, size);
            for (int f : Check.outside(0, 40)) {
                for (int n : new int[] { 1, 2, 12 }) {
                    readIs(x, 0, 0, f, n, 0, INDEX);
                }
                readIs(x, 0, 0, f, 0, 0, 0);
            }
            for (int f : new int[] { -3, -2, -1, -36, Integer.MAX_VALUE - 2, Integer.MAX_VALUE - 35, Integer.MIN_VALUE + 3 }) {
                readIs(x, 0, 0, f, 12, 0, INDEX);
            }
        }
    }

    // "What the machine refuses: those that were whole ahead are told"
    private static void readWholeOnesAhead() {
        for (int size = 0; size <= 9; size++) {
            NothingLeft x = Check.told("thing 4 1 1;");
            int[] cells = { 0, 0, 1, 0, 1, 2, 0, 2, 3 };
            cells(x, 0, 0, Arrays.copyOf(cells, size));
            readIs(x, 0, 0, 0, 4, size / 3, INDEX);
            for (int age = 0; age < 3; age++) {
                Check.due("lot " + age + " of " + size + " cells", x.has(0, age), age < size / 3 ? age + 1 : 0);
            }
            readIs(x, 0, 0, 0, size / 3, size / 3, 0);
        }
    }

    // "of n 0: 0, no FAULT, whatever the SHEET is"
    private static void readOfNone() {
        NothingLeft x = new NothingLeft();
        for (int k = 0; k <= 3; k++) {
            for (int lane = 0; lane <= 2; lane++) {
                for (int f : new int[] { 0, -1, 40, Integer.MAX_VALUE, Integer.MIN_VALUE }) {
                    readIs(x, k, lane, 0, 1, 0, NULL);
                    readIs(x, k, lane, f, 0, 0, 0);
                }
            }
        }
        x.sheet(0, 0, 0);
        readIs(x, 0, 2, 0, 1, 0, CAST);
        readIs(x, 0, 2, 0, 0, 0, 0);
        readIs(x, 0, 0, 0, 1, 0, INDEX);
        readIs(x, 0, 0, 0, 0, 0, 0);
    }

    // "1 NULL (nothing) .. 3 CAST (another lane)"
    private static void readNullAheadOfCast() {
        NothingLeft x = Check.told("thing 4 1 1;");
        for (int k = 0; k <= 3; k++) {
            for (int lane = 0; lane <= 2; lane++) {
                for (int n = 1; n <= 12; n += 11) {
                    readIs(x, k, lane, 0, n, 0, NULL);
                    readIs(x, k, lane, -1, n, 0, NULL);
                }
            }
            x.sheet(k, k % 3, 3);
            for (int lane = 0; lane <= 2; lane++) {
                readIs(x, k, lane, 0, 1, lane == k % 3 ? 1 : 0, lane == k % 3 ? 0 : CAST);
            }
        }
    }

    private static void readCastAheadOfIndex() {
        NothingLeft x = Check.told("thing 4 1 1;");
        x.sheet(0, 1, 0);
        readIs(x, 0, 0, -1, 1, 0, CAST);
        readIs(x, 0, 2, 40, 12, 0, CAST);
        readIs(x, 0, 1, 0, 1, 0, INDEX);
        cells(x, 0, 1, 7, 7, 7);
        readIs(x, 0, 0, 0, 1, 0, CAST);
        readIs(x, 0, 1, 0, 1, -20, CAST);
    }

    // "BAD: k, lane, n" - ahead of all faults, of n 0 too
    private static void readBad() {
        NothingLeft x = Check.told("thing 4 1 1;");
        cells(x, 0, 0, 0, 0, 1);
        readIs(x, 1, 1, 0, 1, 0, NULL);
        for (int k : Check.outside(0, 3)) {
            readIs(x, k, 0, 0, 1, BAD, NULL);
            readIs(x, k, 0, 0, 0, BAD, NULL);
        }
        for (int lane : Check.outside(0, 2)) {
            readIs(x, 0, lane, 0, 1, BAD, NULL);
            readIs(x, 0, lane, 0, 0, BAD, NULL);
            readIs(x, 3, lane, 0, 1, BAD, NULL);
        }
        for (int n : Check.outside(0, 12)) {
            readIs(x, 0, 0, 0, n, BAD, NULL);
            readIs(x, 3, 0, 0, n, BAD, NULL);
        }
        Check.due("nothing told", x.now(5), 0);
    }

    // "-20 less i (from 0 on): lot i, whole, is refused by put(): then none is told"
    private static void readRefusedByPut() {
        NothingLeft x = Check.told("thing 2 1 1;thing 4 1 1;");
        x.sheet(0, 2, 36);
        for (int i = 0; i < 12; i++) {
            x.lay(0, 3 * i, 1);
            x.lay(0, 3 * i + 2, 9);
        }
        for (int i = 0; i < 12; i++) {
            x.lay(0, 3 * i, 2);
            readIs(x, 0, 2, 0, 12, -20 - i, 0);
            Check.due("none is told", x.now(5), 0);
            readIs(x, 0, 2, 3 * i, 1, -20, 0);
            x.lay(0, 3 * i, 1);
        }
        int[][] refused = { { -1, 0, 1 }, { 2, 0, 1 }, { 0, -1, 1 }, { 0, 2, 1 }, { 1, 4, 1 }, { 0, 0, -1 }, { 0, 0, 10 } };
        int[][] taken = { { 0, 0, 1 }, { 1, 0, 1 }, { 0, 0, 0 }, { 0, 1, 1 }, { 1, 3, 1 }, { 0, 0, 0 }, { 0, 0, 9 } };
        for (int i = 0; i < refused.length; i++) {
            cells(x, 1, 1, refused[i]);
            readIs(x, 1, 1, 0, 1, -20, 0);
            cells(x, 1, 1, taken[i]);
            readIs(x, 1, 1, 0, 1, 1, 0);
        }
    }

    // "the first met"
    private static void readFirstMet() {
        NothingLeft x = Check.told("thing 1 1 1;");
        cells(x, 0, 0, 0, 0, 4, 0, 1, 4, 1, 0, 4, 0, 0);
        readIs(x, 0, 0, 0, 12, -21, 0);
        readIs(x, 0, 0, 3, 12, -20, 0);
        readIs(x, 0, 0, 6, 12, -20, 0);
        readIs(x, 0, 0, 9, 12, 0, INDEX);
        Check.due("none is told", x.now(5), 0);
        cells(x, 0, 0, 0, 0, 4, 0, 1);
        readIs(x, 0, 0, 0, 2, 1, INDEX);
        Check.due("one is told ahead of the end of the sheet", x.now(5), 4);
        readIs(x, 0, 0, 2, 2, -20, INDEX);
    }

    // "one behind another as by put()"
    private static void readOneBehindAnother() {
        NothingLeft x = Check.told("thing 4 1 1;");
        cells(x, 0, 0, 0, 3, 1, 0, 3, 9, 0, 3, 5, 0, 3, 0);
        for (int n = 1; n <= 4; n++) {
            readIs(x, 0, 0, 0, n, n, 0);
            Check.due("the last one of " + n, x.has(0, 3), new int[] { 0, 1, 9, 5, 0 }[n]);
        }
        x.put(0, 0, 2);
        readIs(x, 0, 0, 0, 1, 1, 0);
        Check.due("what is not told stays", x.has(0, 0), 2);
        Check.due("the sheet stays", x.count(5), 12);
    }

    private static void readWithoutThings() {
        NothingLeft x = new NothingLeft();
        x.sheet(0, 0, 3);
        readIs(x, 0, 0, 0, 1, -20, 0);
        readIs(x, 0, 0, 1, 1, 0, INDEX);
        readIs(x, 0, 0, 0, 12, -20, INDEX);
    }

    // "The FAULT of the latest read() that answered 0 or more; 0 (one that is refused leaves it)."
    private static void tornOfLatest() {
        NothingLeft x = Check.told("thing 4 1 1;");
        Check.due("ahead of any", x.torn(), 0);
        Check.due("refused ahead of any", x.read(4, 0, 0, 1), BAD);
        Check.due("ahead of any", x.torn(), 0);
        x.sheet(0, 0, 3);
        int[][] reads = { { 1, 0, 0, 1 }, { 0, 0, 1, 1 }, { 0, 1, 0, 1 }, { 0, 0, 0, 1 } };
        int[] faults = { NULL, INDEX, CAST, 0 };
        for (int i = 0; i < reads.length; i++) {
            readIs(x, reads[i][0], reads[i][1], reads[i][2], reads[i][3], faults[i] == 0 ? 1 : 0, faults[i]);
            readIs(x, 4, 0, 0, 1, BAD, faults[i]);
            readIs(x, 0, 0, 0, 13, BAD, faults[i]);
            x.lay(0, 0, 9);
            readIs(x, 0, 0, 0, 1, -20, faults[i]);
            x.lay(0, 0, 0);
            Check.due("asked again", x.torn(), faults[i]);
            Check.due("size", x.sheet(1, 0, -1), -14);
            Check.due("index", x.lay(0, 3, 1), -12);
            Check.due("others than read leave it", x.torn(), faults[i]);
        }
    }

    // "0 THINGS, 1 SUPPERS, 2 DAYS of THE ROW, 3 IMAGES, 4 bytes on THE TAPE, 5 CELLS of SHEET 0 (NONE: nothing). BAD."
    private static void countAsked() {
        NothingLeft x = new NothingLeft();
        countsAre(x, 0, 0, 0, 0, 0, NONE);
        Check.text(x, "thing 1 1 1;".repeat(6) + "first;".repeat(8));
        countsAre(x, 6, 8, 0, 0, 0, NONE);
        for (int i = 0; i < 8; i++) {
            x.day(7);
        }
        x.keep(1);
        x.sheet(1, 0, 9);
        countsAre(x, 6, 8, 7, 1, 0, NONE);
        x.keep(1);
        x.keep(0);
        for (int i = 0; i < 51; i++) {
            x.feed(-1);
        }
        x.sheet(0, 2, 40);
        countsAre(x, 6, 8, 7, 2, 400, 40);
        x.sheet(0, 2, 0);
        x.end(1);
        x.clear();
        countsAre(x, 6, 8, 0, 2, 1, 0);
        x.text();
        countsAre(x, 6, 8, 0, 2, 0, 0);
        x.text();
        countsAre(x, 0, 0, 0, 0, 0, 0);
        for (int what : Check.outside(0, 5)) {
            Check.due("count " + what, x.count(what), BAD);
        }
    }

    private static void countsAre(NothingLeft x, int... due) {
        for (int what = 0; what <= 5; what++) {
            Check.due("count " + what, x.count(what), due[what]);
        }
    }
}
