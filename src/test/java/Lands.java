import java.util.Arrays;

/** Lands to ask, and all that one tells of itself: what the tests have in common. */
final class Lands {
    static final int LEAST = Integer.MIN_VALUE;
    static final int MOST = Integer.MAX_VALUE;
    static final int[] LINE = {0, 1, 2, 3, 4, 5};

    private Lands() { }

    static int write(NineMilesOff x, int d, String text) {
        x.row(d, 0, text.length());
        for (int i = 0; i < text.length(); i++) {
            x.put(d, i, text.charAt(i));
        }
        return d;
    }

    static int tell(NineMilesOff x, String text) {
        return x.land(write(x, 7, text));
    }

    static int told(String text) {
        return tell(new NineMilesOff(), text);
    }

    static void numbers(NineMilesOff x, int d, int sort, int... numbers) {
        x.row(d, sort, numbers.length);
        for (int i = 0; i < numbers.length; i++) {
            x.put(d, i, numbers[i]);
        }
    }

    static void lay(NineMilesOff x, int kind, int figure, int... cells) {
        x.keep(6, 1, kind, figure);
        for (int cell : cells) {
            x.lays(6, cell);
        }
    }

    /** A land of PLAINS on these CELLS alone, RIVERS on all others. */
    static NineMilesOff only(int nearest, int farthest, int... cells) {
        NineMilesOff x = plains(nearest, farthest);
        x.keep(6, 1, 5, 0);
        for (int cell = 0; cell < 36; cell++) {
            int one = cell;
            if (Arrays.stream(cells).noneMatch(c -> c == one)) {
                x.lays(6, cell);
            }
        }
        return x;
    }

    static NineMilesOff plains(int nearest, int farthest) {
        NineMilesOff x = new NineMilesOff();
        x.set(0, nearest);
        x.set(1, farthest);
        return x;
    }

    static NineMilesOff put(NineMilesOff x, int his, int hers) {
        x.stands(0, his);
        x.stands(1, hers);
        return x;
    }

    static int apart(int a, int b) {
        return Math.abs(a / 6 - b / 6) + Math.abs(a % 6 - b % 6);
    }

    /** Both stay where they are till DAY is 999. */
    static NineMilesOff lastDay(NineMilesOff x) {
        write(x, 7, "d00;".repeat(25));
        int days = 999 - x.count(2);
        for (int i = 0; i < days / 25; i++) {
            x.land(7);
        }
        for (int i = 0; i < days % 25; i++) {
            x.go(0, 0);
        }
        return x;
    }

    /** Some of all: closed CELLS, DAYS, an image other than what is now, each sort of thing on SHELVES; nobody. */
    static NineMilesOff nobody() {
        NineMilesOff x = uneven(7);
        x.image();
        x.set(1, 8);
        lay(x, 4, 2, 21);
        fill(x);
        return x;
    }

    static NineMilesOff rich() {
        NineMilesOff x = put(uneven(4), 0, 1);
        x.go(4, 0);
        x.go(0, 2);
        x.go(4, 3);
        x.image();
        x.go(0, 3);
        x.go(0, 3);
        x.set(1, 8);
        lay(x, 4, 2, 21);
        fill(x);
        return x;
    }

    private static NineMilesOff uneven(int farthest) {
        NineMilesOff x = plains(2, farthest);
        lay(x, 5, 0, 35);
        lay(x, 3, 9, 20);
        lay(x, 7, 3, 7);
        return x;
    }

    static NineMilesOff heAlone() {
        NineMilesOff x = nobody();
        x.stands(0, 12);
        return x;
    }

    static NineMilesOff sheAlone() {
        NineMilesOff x = nobody();
        x.stands(1, 3);
        return x;
    }

    /** SHELVES: 0 a text, 1 ints, 2 longs, 3 a HILL, 4 nothing, 5 no bytes, 6 a number that is no CELL, 7 a ROAD. */
    private static void fill(NineMilesOff x) {
        write(x, 0, "w1;n0109;");
        numbers(x, 1, 1, 12, 13, 14);
        numbers(x, 2, 2, 12, 18);
        x.keep(3, 1, 2, 4);
        x.keep(4, 0, 0, 0);
        x.row(5, 0, 0);
        numbers(x, 6, 1, 12, 36);
        x.keep(7, 1, 1, 5);
    }

    /** All that can be told of an object: the land, both, SHELVES, THE IMAGE. It is used up by that. */
    static String all(NineMilesOff x) {
        StringBuilder all = new StringBuilder();
        all.append(land(x));
        for (int d = 0; d < 8; d++) {
            all.append(" shelf ").append(d).append(": ").append(held(x, d)).append(" of a sort with");
            for (int e = 0; e < 8; e++) {
                all.append(x.copy(d, 0, e, 0, 0) == 0 ? " " + e : "");
            }
        }
        all.append(" image ").append(x.restore()).append(": ").append(land(x));
        for (int d = 0; d < 8; d++) {
            all.append(" lays ").append(x.lays(d, 0) >= 0 ? x.ground(0, 0) + " " + x.ground(0, 1) : "none");
        }
        return all.toString();
    }

    private static String land(NineMilesOff x) {
        StringBuilder land = new StringBuilder();
        for (int cell = 0; cell < 36; cell++) {
            land.append(x.ground(cell, 0)).append(x.ground(cell, 1)).append(' ');
        }
        for (int what = 0; what <= 8; what++) {
            land.append(x.count(what)).append(' ');
        }
        return land.toString();
    }

    private static String held(NineMilesOff x, int d) {
        if (x.cost(d) != -12) {
            return x.cost(d) + " " + x.toss(d);
        }
        StringBuilder row = new StringBuilder("row");
        for (int i = 0; i < 101; i++) {
            try {
                row.append(' ').append(x.element(d, i));
            } catch (IllegalStateException noMore) {
                return row.toString();
            }
        }
        return row + " without an end";
    }
}
