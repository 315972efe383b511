/** Promise by promise, with answers worked out by hand: the ordinary, the edges, and what is refused. */
public final class PromisesTest {
    private static final int UNKNOWN = EvenWhite.UNKNOWN, OUTSIDE = EvenWhite.OUTSIDE, NOT = EvenWhite.NOT,
        FULL = EvenWhite.FULL, NONE = EvenWhite.NONE;
    private static final int LEAST = Integer.MIN_VALUE, MOST = Integer.MAX_VALUE;
    private static final int LEFT = 0, RIGHT = 1;
    private static final int DRIFT_1 = 142 + 149 + 146 + 146, DRIFT_LAST = 160;
    private static final String DRIFT_1_ALL = "2 20 100"
        + " | 10 5 25 23 2 21 17 1 21 11 16 26 9 27 26 14 9 ; 2 ; 2"
        + " | 12 9 18 23 26 30 16 8 0 18 5 4 25 16 2 6 14 ; 0 ; 3";
    private static final String DRIFT_LAST_ALL = "1 20 100"
        + " | 10 29 21 13 29 21 12 15 26 19 6 26 30 18 19 28 7 ; 2";

    private static void due(String what, long got, long want) {
        Due.due(what, got, want);
    }

    private static void same(String what, String got, String want) {
        if (got.equals(want)) {
            due(what, 0, 0);
        } else {
            Due.fault(what + " is " + got + ", due is " + want);
        }
    }

    /** The line, written, sign by sign. */
    private static String text(EvenWhite x) {
        StringBuilder text = new StringBuilder();
        for (int i = 0; x.sign(i) != NONE; i++) {
            text.append((char) x.sign(i));
        }
        due("signs of " + text, x.told(12), text.length());
        return text.toString();
    }

    /** All of section 1, as one text. */
    private static String all(EvenWhite x) {
        int n = (int) x.told(0);
        StringBuilder text = new StringBuilder(n + " " + x.told(1) + " " + x.told(2));
        for (int i = 0; i < n; i++) {
            text.append(" | ").append(x.letter(i, 0));
            for (int k = 0; k < 16; k++) {
                text.append(' ').append(x.back(i, k / 8, k % 8));
            }
            for (int j = 0; j < n; j++) {
                text.append(" ; ").append(x.pair(i, j, 0));
            }
        }
        return text.toString();
    }

    private static void fraction(String what, long above, long below, long wantAbove, long wantBelow) {
        due(what + " above", above, wantAbove);
        due(what + " below", below, wantBelow);
    }

    private static void space(EvenWhite x, int letter, int side, long above, long below) {
        fraction("space of " + letter + " at " + side, x.space(letter, side, 0), x.space(letter, side, 1), above, below);
    }

    /**
     * Two letters of which not all pairs can have the same white: at height 0 both sides of letter 0 go
     * back by 1, and D is 1, so that BARE is 1, 1, 1, 0 for the pairs 00, 01, 10, 11.
     */
    private static EvenWhite uneven() {
        EvenWhite x = new EvenWhite();
        x.bound(0, 1);
        x.side(0, LEFT, 0, 1);
        x.side(0, RIGHT, 0, 1);
        for (int k = 0; k < 4; k++) {
            x.weight(k / 2, k % 2, 1);
        }
        return x;
    }

    private static EvenWhite line(EvenWhite x, int... letters) {
        x.wipe();
        for (int letter : letters) {
            x.set(letter);
        }
        return x;
    }

    private static void promise1() {
        EvenWhite x = new EvenWhite();
        same("1 new", all(x), "2 20 100 | 10 0 0 0 0 0 0 0 0 0 0 0 0 0 0 0 0 ; 0 ; 0"
            + " | 10 0 0 0 0 0 0 0 0 0 0 0 0 0 0 0 0 ; 0 ; 0");
        long[] told = {2, 20, 100, 0, NONE, 0, 1, 4, 0, 0, 1, NONE, 4, 0};
        for (int i = 0; i < told.length; i++) {
            due("1 told(" + i + ")", x.told(i), told[i]);
        }
        same("1 written", text(x), ":0/1");
        due("1 undo()", x.undo(), NOT);
        due("1 goBack(0)", x.goBack(0), NOT);
        due("1 goBack(1)", x.goBack(1), NOT);
        x.drift(77);
        x.set(1);
        same("1 objects are apart", all(new EvenWhite()).substring(0, 8), "2 20 100");
        due("1 told(8) of another", new EvenWhite().told(8), 0);
    }

    private static void promise2() {
        EvenWhite x = new EvenWhite();
        x.bound(0, 7);
        x.bound(1, 9);
        x.body(1, 33);
        x.drift(5);
        x.set(0);
        String before = all(x);
        for (int n : new int[] {0, 4, -1, LEAST, MOST}) {
            due("2 letters(" + n + ")", x.letters(n), OUTSIDE);
        }
        same("2 refused", all(x), before);
        due("2 line stays if refused", x.told(8), 1);
        due("2 undone stay if refused", x.told(13), 4);
        due("2 letters(2)", x.letters(2), 2);
        same("2 new letters", all(x), "2 7 9 | 10 0 0 0 0 0 0 0 0 0 0 0 0 0 0 0 0 ; 0 ; 0"
            + " | 10 0 0 0 0 0 0 0 0 0 0 0 0 0 0 0 0 ; 0 ; 0");
        due("2 the line is empty", x.told(8), 0);
        due("2 letters(3)", x.letters(3), 2);
        due("2 open", x.told(7), 6);
        due("2 letter(2, 0)", x.letter(2, 0), 10);
        x.drift(6);
        x.body(2, 50);
        due("2 letters(1)", x.letters(1), 3);
        due("2 letter(1, 0)", x.letter(1, 0), UNKNOWN);
        due("2 letters(3) again", x.letters(3), 1);
        due("2 the third is new", x.letter(2, 0) + x.letter(2, 2) + x.letter(2, 3) + x.pair(2, 2, 0), 10);
        due("2 D", x.told(1), 7);
        due("2 W", x.told(2), 9);
    }

    private static void promise3() {
        EvenWhite x = new EvenWhite();
        for (int k = 0; k < 32; k++) {
            due("3 side, " + k, x.side(k / 16, k / 8 % 2, k % 8, k % 31), 0);
        }
        for (int k = 0; k < 32; k++) {
            due("3 back, " + k, x.back(k / 16, k / 8 % 2, k % 8), k % 31);
            due("3 side again, " + k, x.side(k / 16, k / 8 % 2, k % 8, 30), k % 31);
        }
        due("3 side to 0", x.side(1, 1, 7, 0), 30);
        String before = all(x);
        int[][] unknown = {{2, 0, 0, 0}, {-1, 0, 0, 0}, {0, 0, 8, 0}, {0, 0, -1, 0}, {2, 2, 0, 0}, {0, 2, 8, 0},
            {0, 0, 8, 31}, {MOST, LEAST, MOST, LEAST}, {0, 1, LEAST, 0}};
        for (int[] a : unknown) {
            due("3 unknown " + a[0] + " " + a[2], x.side(a[0], a[1], a[2], a[3]), UNKNOWN);
        }
        int[][] outside = {{0, 2, 0, 0}, {0, -1, 0, 0}, {0, 0, 0, 31}, {0, 0, 0, -1}, {1, LEAST, 7, MOST}};
        for (int[] a : outside) {
            due("3 outside " + a[1] + " " + a[3], x.side(a[0], a[1], a[2], a[3]), OUTSIDE);
        }
        same("3 refused", all(x), before);
    }

    private static void promise4() {
        EvenWhite x = new EvenWhite();
        due("4 body(0, 50)", x.body(0, 50), 10);
        due("4 body(0, 1)", x.body(0, 1), 50);
        due("4 body(1, 7)", x.body(1, 7), 10);
        due("4 letter(0, 0)", x.letter(0, 0), 1);
        due("4 letter(1, 0)", x.letter(1, 0), 7);
        String before = all(x);
        due("4 body(2, 7)", x.body(2, 7), UNKNOWN);
        due("4 body(-1, 99)", x.body(-1, 99), UNKNOWN);
        due("4 body(0, 0)", x.body(0, 0), OUTSIDE);
        due("4 body(0, 51)", x.body(0, 51), OUTSIDE);
        due("4 body(1, LEAST)", x.body(1, LEAST), OUTSIDE);
        same("4 refused", all(x), before);
        due("4 undone", x.told(13), 3);
    }

    private static void promise5() {
        EvenWhite x = new EvenWhite();
        due("5 bound(0, 1)", x.bound(0, 1), 20);
        due("5 bound(0, 60)", x.bound(0, 60), 1);
        due("5 bound(1, 0)", x.bound(1, 0), 100);
        due("5 bound(1, 500)", x.bound(1, 500), 0);
        due("5 D", x.told(1), 60);
        due("5 W", x.told(2), 500);
        int[][] outside = {{0, 0}, {0, 61}, {1, -1}, {1, 501}, {2, 1}, {-1, 1}, {LEAST, 1}, {MOST, 1}, {0, LEAST}, {1, MOST}};
        for (int[] a : outside) {
            due("5 bound(" + a[0] + ", " + a[1] + ")", x.bound(a[0], a[1]), OUTSIDE);
        }
        due("5 D stays", x.told(1), 60);
        due("5 W stays", x.told(2), 500);
        due("5 undone", x.told(13), 4);
    }

    private static void promise6() {
        EvenWhite x = new EvenWhite();
        x.letters(3);
        for (int k = 0; k < 9; k++) {
            due("6 weight, " + k, x.weight(k / 3, k % 3, k % 5), 0);
        }
        for (int k = 0; k < 9; k++) {
            due("6 pair, " + k, x.pair(k / 3, k % 3, 0), k % 5);
        }
        due("6 with a weight", x.told(3), 7);
        due("6 weight(1, 2, 0)", x.weight(1, 2, 0), 0);
        due("6 weight(1, 1, 0)", x.weight(1, 1, 0), 4);
        due("6 with a weight", x.told(3), 6);
        String before = all(x);
        due("6 weight(3, 0, 0)", x.weight(3, 0, 0), UNKNOWN);
        due("6 weight(0, 3, 9)", x.weight(0, 3, 9), UNKNOWN);
        due("6 weight(-1, 0, 0)", x.weight(-1, 0, 0), UNKNOWN);
        due("6 weight(0, -1, 0)", x.weight(0, -1, 0), UNKNOWN);
        due("6 weight(0, 0, 5)", x.weight(0, 0, 5), OUTSIDE);
        due("6 weight(0, 0, -1)", x.weight(0, 0, -1), OUTSIDE);
        same("6 refused", all(x), before);
    }

    private static void promise7() {
        EvenWhite x = new EvenWhite();
        x.side(0, LEFT, 7, 3);
        x.side(0, RIGHT, 2, 4);
        x.body(0, 20);
        x.weight(0, 1, 2);
        due("7 mirror(0)", x.mirror(0), 1);
        same("7 mirrored", all(x), "2 20 100 | 20 0 0 4 0 0 0 0 0 0 0 0 0 0 0 0 3 ; 0 ; 2"
            + " | 10 0 0 0 0 0 0 0 0 0 0 0 0 0 0 0 0 ; 0 ; 0");
        due("7 mirror(1), alike", x.mirror(1), 0);
        due("7 alike is a change too", x.told(13), 6);
        x.side(1, LEFT, 7, 1);
        due("7 mirror(1), unlike at the last height", x.mirror(1), 1);
        due("7 back", x.back(1, RIGHT, 7), 1);
        due("7 mirror(2)", x.mirror(2), UNKNOWN);
        due("7 mirror(-1)", x.mirror(-1), UNKNOWN);
        due("7 undone", x.told(13), 8);
    }

    private static void promise8() {
        EvenWhite x = new EvenWhite();
        x.letters(3);
        for (int i = 0; i < 3; i++) {
            x.side(i, LEFT, i, 5 + i);
            x.body(i, 20 + i);
        }
        for (int k = 0; k < 9; k++) {
            x.weight(k / 3, k % 3, k % 5);
        }
        x.set(2);
        due("8 turn()", x.turn(), 3);
        same("8 turned", all(x), "3 20 100 | 20 0 0 0 0 0 0 0 0 5 0 0 0 0 0 0 0 ; 0 ; 3 ; 1"
            + " | 21 0 0 0 0 0 0 0 0 0 6 0 0 0 0 0 0 ; 1 ; 4 ; 2"
            + " | 22 0 0 0 0 0 0 0 0 0 0 7 0 0 0 0 0 ; 2 ; 0 ; 3");
        due("8 the line stays", x.place(0), 2);
        x.turn();
        due("8 turned twice", x.pair(0, 1, 0) + 10 * x.back(2, LEFT, 2), 71);
        due("8 two letters", new EvenWhite().turn(), 2);
    }

    private static void promise9() {
        EvenWhite x = new EvenWhite();
        x.letters(3);
        x.side(0, LEFT, 0, 1);
        x.side(0, RIGHT, 7, 2);
        x.side(1, LEFT, 0, 1);
        x.side(1, RIGHT, 6, 30);
        x.body(1, 11);
        x.weight(1, 0, 3);
        due("9 copy(0, 1)", x.copy(0, 1), 3);
        same("9 copied", all(x), "3 20 100 | 11 1 0 0 0 0 0 0 0 0 0 0 0 0 0 30 0 ; 0 ; 0 ; 0"
            + " | 11 1 0 0 0 0 0 0 0 0 0 0 0 0 0 30 0 ; 3 ; 0 ; 0"
            + " | 10 0 0 0 0 0 0 0 0 0 0 0 0 0 0 0 0 ; 0 ; 0 ; 0");
        due("9 copy(0, 1) again", x.copy(0, 1), 0);
        x.side(1, LEFT, 3, 9);
        due("9 apart", x.back(0, LEFT, 3), 0);
        for (int k = 0; k < 16; k++) {
            x.side(2, k / 8, k % 8, 20);
        }
        due("9 all places", x.copy(2, 0), 17);
        String before = all(x);
        int[][] unknown = {{0, 0}, {2, 2}, {0, 3}, {3, 0}, {-1, 0}, {0, -1}, {3, 3}, {LEAST, MOST}};
        for (int[] a : unknown) {
            due("9 copy(" + a[0] + ", " + a[1] + ")", x.copy(a[0], a[1]), UNKNOWN);
        }
        same("9 refused", all(x), before);
    }

    private static void promise10() {
        EvenWhite x = new EvenWhite();
        x.body(1, 12);
        x.set(1);
        due("10 drift(1)", x.drift(1), DRIFT_1);
        same("10 by lots of 1", all(x), DRIFT_1_ALL);
        due("10 the line stays", x.place(0), 1);
        x.drift(2);
        due("10 drift(1) again", x.drift(1), DRIFT_1);
        same("10 by lots of 1 again", all(x), DRIFT_1_ALL);
        due("10 drift(0)", x.drift(0), OUTSIDE);
        due("10 drift(1000000)", x.drift(1000000), OUTSIDE);
        due("10 drift(LEAST)", x.drift(LEAST), OUTSIDE);
        due("10 drift(MOST)", x.drift(MOST), OUTSIDE);
        same("10 refused", all(x), DRIFT_1_ALL);
        x.letters(1);
        due("10 drift(999999)", x.drift(999999), DRIFT_LAST);
        same("10 by lots of 999999", all(x), DRIFT_LAST_ALL);
        x.bound(0, 1);
        due("10 drift by D", x.drift(999999) <= 8 ? 1 : 0, 1);
    }

    private static void promise11() {
        for (int change = 0; change < 10; change++) {
            // A new one each time: an object is good for 512 calls.
            EvenWhite x = new EvenWhite();
            x.letters(3);
            x.drift(99);
            x.body(1, 17);
            String before = all(x);
            long spaces = x.space(0, RIGHT, 0);
            int undone = (int) x.told(13);
            switch (change) {
                case 0: x.letters(2); break;
                case 1: x.side(2, 1, 7, 29); break;
                case 2: x.body(2, 49); break;
                case 3: x.bound(0, 59); break;
                case 4: x.bound(1, 499); break;
                case 5: x.weight(2, 1, 4 - (int) x.pair(2, 1, 0)); break;
                case 6: x.mirror(2); break;
                case 7: x.turn(); break;
                case 8: x.copy(2, 0); break;
                default: x.drift(100); break;
            }
            if (all(x).equals(before)) {
                Due.fault("11 change " + change + " changes nothing");
            }
            due("11 one more, " + change, x.told(13), undone + 1);
            due("11 undo, " + change, x.undo(), undone);
            same("11 undone, " + change, all(x), before);
            due("11 spaces, " + change, x.space(0, RIGHT, 0), spaces);
        }
        theEightLatest();
        theLineAfterUndo();
    }

    private static void theEightLatest() {
        EvenWhite x = new EvenWhite();
        for (int v = 11; v <= 20; v++) {
            x.body(0, v);
            due("11 kept", x.told(13), Math.min(v - 10, 8));
        }
        x.body(0, 0);
        x.copy(0, 0);
        x.set(0);
        x.wipe();
        for (int left = 7; left >= 0; left--) {
            due("11 undo()", x.undo(), left);
            due("11 body", x.letter(0, 0), 12 + left);
            due("11 told(13)", x.told(13), left);
        }
        due("11 none", x.undo(), NOT);
        due("11 none changes nothing", x.letter(0, 0), 12);
        x.body(0, 40);
        due("11 one", x.undo(), 0);
        due("11 body, one", x.letter(0, 0), 12);
    }

    private static void theLineAfterUndo() {
        EvenWhite x = new EvenWhite();
        x.body(0, 11);
        x.letters(2);
        x.set(1);
        x.undo();
        due("11 as many letters: the line stays", x.told(8), 1);
        x.undo();
        due("11 the line stays", x.place(0), 1);
        x.letters(3);
        x.set(2);
        x.undo();
        due("11 other many letters: the line is empty", x.told(8), 0);
        due("11 letters", x.told(0), 2);
    }

    private static void promise12() {
        EvenWhite x = uneven();
        long[] told = {2, 1, 100, 4, 0, 1, 4, 1, 0, 0, 1, NONE, 4, 7};
        for (int i = 0; i < told.length; i++) {
            due("12 told(" + i + ")", x.told(i), told[i]);
        }
        due("12 told(14)", x.told(14), OUTSIDE);
        due("12 told(-1)", x.told(-1), OUTSIDE);
        due("12 told(LEAST)", x.told(LEAST), OUTSIDE);
        due("12 told(MOST)", x.told(MOST), OUTSIDE);
        x.weight(1, 1, 4);
        fraction("12 squares", x.told(5), x.told(6), 4, 13);
        due("12 worst", x.told(4), 0);
        x.weight(1, 1, 1);
        x.weight(0, 0, 4);
        fraction("12 squares", x.told(5), x.told(6), 4, 13);
        due("12 worst, the first of like ones", x.told(4), 1);
        x.weight(0, 1, 4);
        due("12 worst", x.told(4), 10);
        x.weight(1, 0, 4);
        due("12 worst", x.told(4), 11);
        x.weight(1, 1, 0);
        due("12 worst, nothing left over", x.told(4), 0);
        fraction("12 squares", x.told(5), x.told(6), 0, 1);
        x.weight(0, 0, 0);
        due("12 worst, with a weight alone", x.told(4), 1);
        x.letters(3);
        due("12 worst, none of three letters", x.told(4), NONE);
        x.weight(2, 1, 1);
        due("12 worst of three letters", x.told(4), 21);
        fraction("12 squares of three letters", x.told(5), x.told(6), 0, 1);
        theLineTold();
    }

    private static void theLineTold() {
        EvenWhite x = line(uneven(), 0);
        fraction("12 wide, one", x.told(9), x.told(10), 10, 1);
        due("12 thin, one", x.told(11), NONE);
        line(x, 0, 1);
        fraction("12 wide", x.told(9), x.told(10), 1037, 32);
        due("12 thin, two", x.told(11), 0);
        due("12 signs", x.told(12), 11);
        line(x, 0, 1, 0, 0);
        due("12 thin", x.told(11), 2);
        line(x, 1, 0, 0, 1, 1);
        due("12 thin, the first of like ones", x.told(11), 1);
        due("12 letters of the line", x.told(8), 5);
        x.body(1, 50);
        fraction("12 wide by bodies", x.told(9), x.told(10), (170 * 32 + 399 - 2 + 397 - 2 + 397 + 399) / 4, 32 / 4);
    }

    private static void promise13() {
        EvenWhite x = new EvenWhite();
        for (int h = 0; h < 8; h++) {
            x.side(1, LEFT, h, h);
            x.side(1, RIGHT, h, 30);
        }
        x.body(1, 44);
        long[] want = {44, 0, 28, 240};
        long[] plain = {10, 1, 0, 0};
        for (int what = 0; what < 4; what++) {
            due("13 letter(1, " + what + ")", x.letter(1, what), want[what]);
            due("13 letter(0, " + what + ")", x.letter(0, what), plain[what]);
        }
        x.side(0, RIGHT, 7, 1);
        due("13 unlike at the last height", x.letter(0, 1), 0);
        x.side(0, RIGHT, 7, 0);
        x.side(0, LEFT, 0, 1);
        due("13 unlike at the first height", x.letter(0, 1), 0);
        x.side(0, RIGHT, 0, 1);
        x.side(1, LEFT, 0, 2);
        due("13 alike, whatever the next letter is", x.letter(0, 1), 1);
        due("13 letter(2, 0)", x.letter(2, 0), UNKNOWN);
        due("13 letter(2, 9)", x.letter(2, 9), UNKNOWN);
        due("13 letter(-1, 0)", x.letter(-1, 0), UNKNOWN);
        due("13 letter(0, 4)", x.letter(0, 4), OUTSIDE);
        due("13 letter(0, -1)", x.letter(0, -1), OUTSIDE);
    }

    private static void promise14() {
        EvenWhite x = new EvenWhite();
        x.side(1, LEFT, 0, 3);
        x.side(1, RIGHT, 7, 30);
        due("14 back(1, 0, 0)", x.back(1, LEFT, 0), 3);
        due("14 back(1, 1, 7)", x.back(1, RIGHT, 7), 30);
        due("14 back(1, 0, 7)", x.back(1, LEFT, 7), 0);
        due("14 back(2, 0, 0)", x.back(2, 0, 0), UNKNOWN);
        due("14 back(-1, 0, 0)", x.back(-1, 0, 0), UNKNOWN);
        due("14 back(0, 0, 8)", x.back(0, 0, 8), UNKNOWN);
        due("14 back(0, 0, -1)", x.back(0, 0, -1), UNKNOWN);
        due("14 back(0, 2, 8)", x.back(0, 2, 8), UNKNOWN);
        due("14 back(0, 2, 0)", x.back(0, 2, 0), OUTSIDE);
        due("14 back(0, -1, 7)", x.back(0, -1, 7), OUTSIDE);
    }

    private static void promise15() {
        EvenWhite x = uneven();
        space(x, 0, RIGHT, 397, 32);
        space(x, 1, RIGHT, 399, 32);
        space(x, 0, LEFT, -1, 16);
        space(x, 1, LEFT, 0, 1);
        long[] open = {0, 1, 0, 0};
        long[] whole = {0, 0, 12, 13};
        for (int k = 0; k < 4; k++) {
            due("15 open, " + k, x.space(k % 2, k / 2, 2), open[k]);
            due("15 whole, " + k, x.space(k % 2, k / 2, 3), whole[k]);
        }
        due("15 space(2, 0, 0)", x.space(2, 0, 0), UNKNOWN);
        due("15 space(-1, 2, 4)", x.space(-1, 2, 4), UNKNOWN);
        due("15 space(0, 2, 0)", x.space(0, 2, 0), OUTSIDE);
        due("15 space(0, -1, 0)", x.space(0, -1, 0), OUTSIDE);
        due("15 space(0, 0, 4)", x.space(0, 0, 4), OUTSIDE);
        due("15 space(0, 0, -1)", x.space(0, 0, -1), OUTSIDE);
        openSpaces();
        wholeSpaces();
    }

    /** Two groups of letters that never meet, and one that meets nobody: each group has its open one. */
    private static void openSpaces() {
        EvenWhite x = new EvenWhite();
        x.letters(3);
        x.weight(0, 2, 1);
        x.weight(1, 0, 4);
        x.weight(1, 1, 2);
        due("15 open", x.told(7), 3);
        int[][] open = {{0, 1, 1}, {0, 0, 1}};
        for (int letter = 0; letter < 3; letter++) {
            due("15 open left of " + letter, x.space(letter, LEFT, 2), open[0][letter]);
            due("15 open right of " + letter, x.space(letter, RIGHT, 2), open[1][letter]);
        }
        space(x, 0, RIGHT, 25, 2);
        space(x, 1, RIGHT, 25, 2);
        space(x, 2, RIGHT, 0, 1);
        space(x, 0, LEFT, 0, 1);
        x.weight(0, 0, 1);
        due("15 they meet", x.told(7), 2);
        due("15 closed now", x.space(1, LEFT, 2), 0);
    }

    private static void wholeSpaces() {
        EvenWhite x = new EvenWhite();
        x.bound(1, 4);
        x.weight(0, 0, 1);
        space(x, 0, RIGHT, 1, 2);
        due("15 half: the greater", x.space(0, RIGHT, 3), 1);
        x.weight(1, 1, 1);
        due("15 of like rests the first", x.space(0, RIGHT, 3), 1);
        due("15 of like rests not the second", x.space(1, RIGHT, 3), 0);
        x.bound(1, 3);
        due("15 three quarters", x.space(0, RIGHT, 3) + x.space(1, RIGHT, 3), 1);
        x.bound(1, 0);
        for (int h = 0; h < 4; h++) {
            x.side(0, LEFT, h, 1);
        }
        x.weight(1, 1, 0);
        space(x, 0, RIGHT, -1, 2);
        due("15 half below 0: the greater", x.space(0, RIGHT, 3), 0);
        x.side(0, LEFT, 7, 1);
        space(x, 0, RIGHT, -5, 8);
        due("15 below 0", x.space(0, RIGHT, 3), -1);
    }

    private static void promise16() {
        EvenWhite x = uneven();
        long[][] want = {{1, 1, 399, 4, -1, 4}, {1, 1, 401, 4, 1, 4}, {1, 1, 401, 4, 1, 4}, {1, 0, 399, 4, -1, 4}};
        for (int k = 0; k < 4; k++) {
            for (int what = 0; what < 6; what++) {
                due("16 pair " + k + ", " + what, x.pair(k / 2, k % 2, what), want[k][what]);
            }
        }
        x.bound(0, 60);
        x.side(0, RIGHT, 0, 30);
        x.side(1, LEFT, 0, 30);
        due("16 as deep as can be", x.pair(0, 1, 1), 60);
        x.bound(0, 59);
        due("16 no deeper", x.pair(0, 1, 1), 59);
        due("16 the other way", x.pair(1, 0, 1), 1);
        due("16 pair(2, 0, 0)", x.pair(2, 0, 0), UNKNOWN);
        due("16 pair(0, 2, 9)", x.pair(0, 2, 9), UNKNOWN);
        due("16 pair(-1, 0, 0)", x.pair(-1, 0, 0), UNKNOWN);
        due("16 pair(0, -1, 0)", x.pair(0, -1, 0), UNKNOWN);
        due("16 pair(0, 0, 6)", x.pair(0, 0, 6), OUTSIDE);
        due("16 pair(0, 0, -1)", x.pair(0, 0, -1), OUTSIDE);
        EvenWhite bare = new EvenWhite();
        bare.side(0, RIGHT, 3, 7);
        fraction("16 white without weights", bare.pair(0, 0, 2), bare.pair(0, 0, 3), 7, 1);
        fraction("16 left over without weights", bare.pair(0, 0, 4), bare.pair(0, 0, 5), -93, 1);
    }

    private static void promise17() {
        EvenWhite x = uneven();
        long[] want = {97, 97, 105, 104};
        for (int k = 0; k < 4; k++) {
            due("17 white, " + k, x.white(k / 2, k % 2), want[k]);
        }
        x.letters(2);
        x.bound(1, 16);
        x.side(0, RIGHT, 0, 1);
        for (int h = 0; h < 8; h++) {
            x.side(1, RIGHT, h, 1);
            x.side(0, LEFT, h, 0);
        }
        x.bound(0, 20);
        x.side(1, LEFT, 3, 16);
        x.weight(0, 0, 1);
        x.weight(0, 1, 1);
        due("17 whole left of the first", x.space(0, LEFT, 3), 2);
        due("17 white(0, 0)", x.white(0, 0), 17);
        due("17 white(1, 0)", x.white(1, 0), 24);
        due("17 white(2, 0)", x.white(2, 0), UNKNOWN);
        due("17 white(0, 2)", x.white(0, 2), UNKNOWN);
        due("17 white(-1, 0)", x.white(-1, 0), UNKNOWN);
        due("17 white(0, MOST)", x.white(0, MOST), UNKNOWN);
    }

    private static void promise18() {
        EvenWhite x = new EvenWhite();
        due("18 set(2)", x.set(2), UNKNOWN);
        due("18 set(-1)", x.set(-1), UNKNOWN);
        due("18 refused", x.told(8), 0);
        for (int i = 0; i < 16; i++) {
            due("18 set", x.set(i % 2), i + 1);
        }
        due("18 full", x.set(0), FULL);
        due("18 unknown ahead of full", x.set(2), UNKNOWN);
        due("18 sixteen", x.told(8), 16);
        due("18 no change to undo", x.told(13), 0);
    }

    private static void promise19() {
        EvenWhite x = line(new EvenWhite(), 0, 1, 0);
        due("19 wipe()", x.wipe(), 3);
        due("19 told(8)", x.told(8), 0);
        due("19 wipe() again", x.wipe(), 0);
        due("19 set", x.set(1), 1);
        due("19 place", x.place(0), 1);
        due("19 no change to undo", x.told(13), 0);
    }

    private static void promise20() {
        EvenWhite x = line(new EvenWhite(), 1, 0, 1);
        long[] want = {1, 0, 1, NONE};
        for (int i = 0; i < 4; i++) {
            due("20 place(" + i + ")", x.place(i), want[i]);
        }
        due("20 place(16)", x.place(16), NONE);
        due("20 place(MOST)", x.place(MOST), NONE);
        due("20 place(-1)", x.place(-1), OUTSIDE);
        due("20 place(LEAST)", x.place(LEAST), OUTSIDE);
        x.wipe();
        due("20 place(0)", x.place(0), NONE);
    }

    private static void promise21() {
        EvenWhite x = uneven();
        same("21 empty", text(x), ":0/1");
        same("21 one", text(line(x, 1)), "b:10/1");
        same("21 more", text(line(x, 0, 1)), "a+b:1037/32");
        same("21 less", text(line(x, 0, 0)), "a-a:1035/32");
        x.weight(0, 0, 0);
        same("21 as much", text(line(x, 0, 1, 1)), "a=b=b:439/8");
        due("21 sign(-1)", x.sign(-1), OUTSIDE);
        due("21 sign(LEAST)", x.sign(LEAST), OUTSIDE);
        due("21 sign(MOST)", x.sign(MOST), NONE);
        x.letters(3);
        same("21 without weights", text(line(x, 2, 0)), "c-a:20/1");
        x.bound(1, 0);
        same("21 nothing wanted", text(line(x, 2, 0)), "c=a:20/1");
        x.letters(1);
        x.bound(0, 60);
        x.body(0, 1);
        x.weight(0, 0, 1);
        for (int k = 0; k < 16; k++) {
            x.side(0, k / 8, k % 8, 30);
        }
        same("21 below 0", text(line(x, 0, 0)), "a=a:-58/1");
        x.bound(1, 1);
        same("21 below 0", text(line(x, 0, 0, 0)), "a=a=a:-467/4");
        x.bound(1, 456);
        same("21 -1", text(line(x, 0, 0)), "a=a:-1/1");
        x.body(0, 9);
        same("21 one figure", text(line(x, 0)), "a:9/1");
    }

    private static void promise22() {
        EvenWhite x = new EvenWhite();
        x.drift(3);
        x.set(1);
        due("22 keep(2)", x.keep(2), UNKNOWN);
        due("22 keep(-1)", x.keep(-1), UNKNOWN);
        due("22 keep(LEAST)", x.keep(LEAST), UNKNOWN);
        due("22 refused", x.told(13), 1);
        String before = all(x);
        due("22 keep(1)", x.keep(1), 2);
        due("22 nothing can be undone", x.told(13), 0);
        due("22 undo()", x.undo(), NOT);
        due("22 the line stays", x.told(8), 1);
        same("22 all stays", all(x), before);
        x.letters(3);
        due("22 keep(0)", x.keep(0), 3);
        x.body(2, 9);
        due("22 keep(0) again", x.keep(0), 3);
        x.goBack(0);
        due("22 the latest is kept", x.letter(2, 0), 9);
    }

    private static void promise23() {
        EvenWhite x = new EvenWhite();
        x.bound(0, 33);
        x.bound(1, 44);
        x.drift(8);
        x.body(0, 12);
        String first = all(x);
        x.keep(0);
        long above = x.space(0, RIGHT, 0);
        x.letters(3);
        x.bound(1, 45);
        x.drift(9);
        x.set(2);
        due("23 goBack(1)", x.goBack(1), NOT);
        due("23 goBack(2)", x.goBack(2), UNKNOWN);
        due("23 goBack(-1)", x.goBack(-1), UNKNOWN);
        due("23 refused: the line", x.told(8), 1);
        due("23 refused: undone", x.told(13), 3);
        String second = all(x);
        x.keep(1);
        x.body(0, 1);
        // Asked ahead of it, so that spaces found for other letters would be told.
        x.told(5);
        due("23 goBack(0)", x.goBack(0), 2);
        same("23 image 0", all(x), first);
        due("23 spaces", x.space(0, RIGHT, 0), above);
        due("23 the line is empty", x.told(8), 0);
        due("23 nothing can be undone", x.undo(), NOT);
        x.drift(10);
        x.set(0);
        due("23 goBack(0) again", x.goBack(0), 2);
        same("23 image 0 again", all(x), first);
        due("23 as many letters, and the line is empty", x.told(8), 0);
        due("23 goBack(1)", x.goBack(1), 3);
        same("23 image 1", all(x), second);
    }

    public static void main(String[] args) {
        promise1();
        promise2();
        promise3();
        promise4();
        promise5();
        promise6();
        promise7();
        promise8();
        promise9();
        promise10();
        promise11();
        promise12();
        promise13();
        promise14();
        promise15();
        promise16();
        promise17();
        promise18();
        promise19();
        promise20();
        promise21();
        promise22();
        promise23();
        Due.end();
    }
}
