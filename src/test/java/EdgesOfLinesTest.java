/** Boundary cases of promises 18 to 23: lines, how they are written, and images. */
public final class EdgesOfLinesTest extends Edges {
    public static void main(String[] args) throws ReflectiveOperationException {
        run(EdgesOfLinesTest.class);
    }

    private static EvenWhite full() {
        return line(new EvenWhite(), 0, 1, 0, 1, 0, 1, 0, 1, 0, 1, 0, 1, 0, 1, 0, 1);
    }

    // ---- promise 18: set

    static void promise18_the_first_letter_of_an_empty_line() {
        EvenWhite x = new EvenWhite();
        due("set(1)", x.set(1), 1);
        due("place(0)", x.place(0), 1);
        due("told(8)", x.told(8), 1);
    }

    static void promise18_sixteen_letters_are_taken() {
        EvenWhite x = of(3);
        for (int i = 0; i < 16; i++) {
            due("set(" + i % 3 + ")", x.set(i % 3), i + 1);
        }
        for (int i = 0; i < 16; i++) {
            due("place(" + i + ")", x.place(i), i % 3);
        }
    }

    static void promise18_the_seventeenth_is_refused() {
        refused("set(0)", x -> x.set(0), FULL);
        refused("set(2)", x -> x.set(2), FULL);
        EvenWhite x = full();
        due("set(0)", x.set(0), FULL);
        due("set(0) again", x.set(0), FULL);
        due("told(8)", x.told(8), 16);
    }

    static void promise18_there_is_room_again_behind_wipe() {
        EvenWhite x = full();
        x.wipe();
        due("set(1)", x.set(1), 1);
        due("place(1)", x.place(1), NONE);
    }

    static void promise18_there_is_room_again_behind_letters_and_goBack() {
        EvenWhite x = full();
        x.keep(0);
        x.goBack(0);
        due("set(1) behind goBack", x.set(1), 1);
        x = full();
        x.letters(2);
        due("set(1) behind letters", x.set(1), 1);
    }

    static void promise18_the_last_letter_is_one_less_than_there_are() {
        for (int n = 1; n <= 3; n++) {
            EvenWhite x = of(n);
            due("set the last of " + n, x.set(n - 1), 1);
            due("set one behind the last of " + n, x.set(n), UNKNOWN);
        }
    }

    static void promise18_a_letter_that_there_is_not_is_unknown() {
        for (int letter : new int[] {-1, 2, 3, LEAST, MOST}) {
            refused("set(" + letter + ")", () -> line(new EvenWhite(), 1, 0), x -> x.set(letter), UNKNOWN);
        }
    }

    static void promise18_unknown_is_told_ahead_of_full() {
        refused("set(3)", x -> x.set(3), UNKNOWN);
        refused("set(-1)", x -> x.set(-1), UNKNOWN);
    }

    static void promise18_it_is_no_change_that_can_be_undone() {
        EvenWhite x = new EvenWhite();
        x.set(0);
        due("told(13)", x.told(13), 0);
        due("undo()", x.undo(), NOT);
        due("told(8)", x.told(8), 1);
    }

    // ---- promise 19: wipe

    static void promise19_an_empty_line() {
        EvenWhite x = new EvenWhite();
        due("wipe()", x.wipe(), 0);
        due("wipe() again", x.wipe(), 0);
        due("told(8)", x.told(8), 0);
    }

    static void promise19_a_full_line() {
        EvenWhite x = full();
        due("wipe()", x.wipe(), 16);
        due("told(8)", x.told(8), 0);
        due("place(0)", x.place(0), NONE);
        due("told(11)", x.told(11), NONE);
        same("written", written(x), ":0/1");
        due("wipe() again", x.wipe(), 0);
    }

    static void promise19_it_is_no_change_that_can_be_undone() {
        EvenWhite x = line(new EvenWhite(), 0);
        x.body(0, 11);
        x.wipe();
        due("told(13)", x.told(13), 1);
        due("undo()", x.undo(), 0);
        due("told(8)", x.told(8), 0);
    }

    static void promise19_the_letters_stay() {
        EvenWhite x = rich();
        String before = section1(x);
        x.wipe();
        same("section 1", section1(x), before);
        due("told(13)", x.told(13), 8);
    }

    // ---- promise 20: place

    static void promise20_below_0_is_outside() {
        refused("place(-1)", x -> x.place(-1), OUTSIDE);
        refused("place(LEAST)", x -> x.place(LEAST), OUTSIDE);
        due("place(-1) of an empty line", new EvenWhite().place(-1), OUTSIDE);
    }

    static void promise20_an_empty_line_has_no_place() {
        EvenWhite x = new EvenWhite();
        due("place(0)", x.place(0), NONE);
        due("place(MOST)", x.place(MOST), NONE);
    }

    static void promise20_the_first_the_last_and_the_one_behind() {
        EvenWhite x = line(of(3), 2, 0, 1);
        due("place(0)", x.place(0), 2);
        due("place(2)", x.place(2), 1);
        due("place(3)", x.place(3), NONE);
        due("place(MOST)", x.place(MOST), NONE);
    }

    static void promise20_the_last_of_a_full_line_and_the_one_behind() {
        EvenWhite x = full();
        due("place(15)", x.place(15), 1);
        due("place(16)", x.place(16), NONE);
        due("place(17)", x.place(17), NONE);
    }

    static void promise20_what_was_wiped_is_not_there() {
        EvenWhite x = full();
        x.wipe();
        x.set(0);
        due("place(0)", x.place(0), 0);
        due("place(1)", x.place(1), NONE);
    }

    // ---- promise 21: sign

    static void promise21_below_0_is_outside() {
        refused("sign(-1)", x -> x.sign(-1), OUTSIDE);
        refused("sign(LEAST)", x -> x.sign(LEAST), OUTSIDE);
        due("sign(-1) of an empty line", new EvenWhite().sign(-1), OUTSIDE);
    }

    static void promise21_the_empty_line_is_written_too() {
        EvenWhite x = new EvenWhite();
        int[] want = {':', '0', '/', '1', NONE, NONE};
        for (int i = 0; i < want.length; i++) {
            due("sign(" + i + ")", x.sign(i), want[i]);
        }
        due("sign(MOST)", x.sign(MOST), NONE);
    }

    static void promise21_one_letter_has_nothing_between() {
        same("written", written(line(of(3), 2)), "c:10/1");
    }

    static void promise21_each_letter_has_its_sign() {
        EvenWhite x = of(3);
        x.bound(1, 0);
        same("written", written(line(x, 0, 1, 2)), "a=b=c:30/1");
    }

    static void promise21_more_and_less_by_less_than_one() {
        EvenWhite x = uneven(1);
        same("more by a fourth", written(line(x, 0, 1)), "a+b:1037/32");
        same("less by a fourth", written(line(x, 0, 0)), "a-a:1035/32");
    }

    static void promise21_just_as_much() {
        EvenWhite x = eachAlone(1, 101);
        same("written", written(line(x, 0, 0)), "a=a:261/8");
    }

    static void promise21_more_and_less_by_one() {
        EvenWhite x = back(new EvenWhite(), 0, RIGHT, 5);
        x.bound(1, 5);
        same("as much", written(line(x, 0, 1)), "a=b:20/1");
        x.bound(1, 4);
        same("more", written(line(x, 0, 1)), "a+b:20/1");
        x.bound(1, 6);
        same("less", written(line(x, 0, 1)), "a-b:20/1");
    }

    static void promise21_white_below_0_is_less() {
        same("written", written(line(deep(), 0, 0, 1, 0)), "a=a-b+a:-80/1");
    }

    static void promise21_wide_below_0_has_a_sign_ahead() {
        EvenWhite x = deep();
        x.body(0, 1);
        same("written", written(line(x, 0, 0)), "a=a:-58/1");
        x.bound(1, 1);
        same("written", written(line(x, 0, 0)), "a=a:-463/8");
    }

    static void promise21_wide_just_below_0() {
        EvenWhite x = of(1);
        x.bound(0, 30);
        x.bound(1, 0);
        x.body(0, 1);
        x.weight(0, 0, 1);
        x.side(0, LEFT, 0, 24);
        same("written", written(line(x, 0, 0)), "a=a:-1/1");
        x.side(0, LEFT, 0, 17);
        same("written", written(line(x, 0, 0)), "a=a:-1/8");
    }

    static void promise21_wide_of_0_has_no_sign_ahead() {
        EvenWhite x = back(of(1), 0, LEFT, 16);
        x.bound(1, 0);
        x.body(0, 1);
        x.weight(0, 0, 1);
        same("written", written(line(x, 0, 0)), "a=a:0/1");
    }

    static void promise21_figures_about_the_powers_of_ten() {
        EvenWhite x = of(1);
        int[] bodies = {1, 9, 10, 11, 50};
        for (int body : bodies) {
            x.body(0, body);
            same("one letter of " + body, written(line(x, 0)), "a:" + body + "/1");
        }
        x.bound(1, 0);
        x.body(0, 33);
        same("99", written(line(x, 0, 0, 0)), "a=a=a:99/1");
        x.body(0, 50);
        same("100", written(line(x, 0, 0)), "a=a:100/1");
    }

    static void promise21_the_full_line() {
        EvenWhite x = eachAlone(1, 500);
        x.body(0, 50);
        for (int i = 0; i < 16; i++) {
            x.set(0);
        }
        same("written", written(x), "a=a=a=a=a=a=a=a=a=a=a=a=a=a=a=a:3475/2");
        due("sign(37)", x.sign(37), '2');
        due("sign(38)", x.sign(38), NONE);
        due("sign(MOST)", x.sign(MOST), NONE);
    }

    static void promise21_it_is_written_anew_behind_each_change() {
        EvenWhite x = line(eachAlone(1, 4), 0, 0);
        same("written", written(x), "a=a:41/2");
        x.bound(1, 8);
        same("behind bound", written(x), "a=a:21/1");
        x.body(0, 1);
        same("behind body", written(x), "a=a:3/1");
        x.weight(0, 0, 0);
        same("behind weight", written(x), "a-a:2/1");
        x.undo();
        same("undone", written(x), "a=a:3/1");
        x.side(0, LEFT, 0, 8);
        same("behind side", written(x), "a=a:2/1");
    }

    /** No other question is asked between the change and the sign. */
    static void promise21_one_sign_alone_is_told_anew_behind_a_change() {
        EvenWhite x = line(eachAlone(1, 4), 0, 0);
        due("sign(4)", x.sign(4), '4');
        x.bound(1, 8);
        due("sign(4) behind bound", x.sign(4), '2');
        x.weight(0, 0, 0);
        due("sign(1) behind weight", x.sign(1), '-');
        x.undo();
        due("sign(1), undone", x.sign(1), '=');
    }

    // ---- promise 22: keep

    static void promise22_the_first_and_the_last_image() {
        EvenWhite x = of(3);
        due("keep(0)", x.keep(0), 3);
        x.letters(1);
        due("keep(1)", x.keep(1), 1);
        due("goBack(0)", x.goBack(0), 3);
        due("goBack(1)", x.goBack(1), 1);
    }

    static void promise22_an_image_below_0_is_unknown() {
        refused("keep(-1)", x -> x.keep(-1), UNKNOWN);
        refused("keep(LEAST)", x -> x.keep(LEAST), UNKNOWN);
    }

    static void promise22_an_image_above_1_is_unknown() {
        refused("keep(2)", x -> x.keep(2), UNKNOWN);
        refused("keep(MOST)", x -> x.keep(MOST), UNKNOWN);
    }

    static void promise22_it_answers_how_many_letters() {
        for (int n = 1; n <= 3; n++) {
            due("keep(1) of " + n, of(n).keep(1), n);
        }
        due("keep(0) of a new object", new EvenWhite().keep(0), 2);
    }

    static void promise22_nothing_can_be_undone_then() {
        EvenWhite x = rich();
        x.keep(1);
        due("told(13)", x.told(13), 0);
        due("undo()", x.undo(), NOT);
        x.body(0, 44);
        due("told(13) behind a change", x.told(13), 1);
        due("undo() behind a change", x.undo(), 0);
        due("letter(0, 0)", x.letter(0, 0), 7);
        due("undo() again", x.undo(), NOT);
    }

    static void promise22_the_line_and_the_letters_stay() {
        EvenWhite x = rich();
        String before = section1(x);
        x.keep(1);
        same("section 1", section1(x), before);
        due("told(8)", x.told(8), 16);
    }

    static void promise22_an_image_kept_again_is_the_latest() {
        EvenWhite x = new EvenWhite();
        x.body(0, 11);
        x.keep(0);
        x.body(0, 12);
        x.keep(0);
        x.body(0, 13);
        x.goBack(0);
        due("letter(0, 0)", x.letter(0, 0), 12);
    }

    static void promise22_the_other_image_stays() {
        EvenWhite x = new EvenWhite();
        x.body(0, 11);
        x.keep(0);
        x.body(0, 12);
        x.keep(1);
        x.goBack(0);
        due("letter(0, 0) of image 0", x.letter(0, 0), 11);
        x.goBack(1);
        due("letter(0, 0) of image 1", x.letter(0, 0), 12);
    }

    static void promise22_the_other_image_is_not_kept_by_it() {
        EvenWhite x = new EvenWhite();
        x.keep(1);
        due("goBack(0)", x.goBack(0), NOT);
        EvenWhite y = new EvenWhite();
        y.keep(0);
        due("goBack(1)", y.goBack(1), NOT);
    }

    // ---- promise 23: goBack

    static void promise23_an_image_below_0_is_unknown() {
        refused("goBack(-1)", x -> x.goBack(-1), UNKNOWN);
        refused("goBack(LEAST)", x -> x.goBack(LEAST), UNKNOWN);
    }

    static void promise23_an_image_above_1_is_unknown() {
        refused("goBack(2)", x -> x.goBack(2), UNKNOWN);
        refused("goBack(MOST)", x -> x.goBack(MOST), UNKNOWN);
    }

    static void promise23_an_image_that_was_not_kept() {
        refused("goBack(1)", x -> x.goBack(1), NOT);
        refused("goBack(0)", () -> line(new EvenWhite(), 0, 1), x -> x.goBack(0), NOT);
        refused("goBack(1)", () -> line(new EvenWhite(), 0, 1), x -> x.goBack(1), NOT);
    }

    static void promise23_unknown_is_told_ahead_of_not() {
        refused("goBack(2)", () -> line(new EvenWhite(), 0, 1), x -> x.goBack(2), UNKNOWN);
        refused("goBack(-1)", () -> line(new EvenWhite(), 0, 1), x -> x.goBack(-1), UNKNOWN);
    }

    static void promise23_it_answers_how_many_letters() {
        for (int n = 1; n <= 3; n++) {
            EvenWhite x = of(n);
            x.keep(0);
            x.letters(n % 3 + 1);
            due("goBack(0) to " + n, x.goBack(0), n);
            due("told(0)", x.told(0), n);
        }
    }

    static void promise23_all_of_section_1_is_as_it_was_kept() {
        EvenWhite x = rich();
        String before = section1(x);
        x.keep(1);
        x.letters(2);
        x.bound(0, 1);
        x.bound(1, 500);
        x.drift(1);
        x.body(0, 50);
        x.told(5);
        x.goBack(1);
        same("section 1", section1(x), before);
        EvenWhite y = rich();
        y.keep(1);
        y.wipe();
        same("spaces", written(line(x, 0, 1, 2, 2)), written(line(y, 0, 1, 2, 2)));
        squares(x, y.told(5), y.told(6));
    }

    static void promise23_nothing_can_be_undone_then() {
        EvenWhite x = rich();
        x.goBack(0);
        due("told(13)", x.told(13), 0);
        due("undo()", x.undo(), NOT);
        due("letter(2, 0)", x.letter(2, 0), 33);
    }

    static void promise23_the_line_is_empty_with_as_many_letters() {
        EvenWhite x = new EvenWhite();
        x.keep(0);
        line(x, 0, 1);
        x.goBack(0);
        due("told(8)", x.told(8), 0);
        due("place(0)", x.place(0), NONE);
    }

    static void promise23_the_line_is_empty_with_other_many_letters() {
        EvenWhite x = of(1);
        x.keep(0);
        x.letters(3);
        line(x, 2, 2);
        x.goBack(0);
        due("told(8)", x.told(8), 0);
        same("written", written(x), ":0/1");
    }

    static void promise23_the_image_is_kept_on() {
        EvenWhite x = new EvenWhite();
        x.body(0, 11);
        x.keep(1);
        for (int times = 0; times < 3; times++) {
            x.drift(times + 1);
            x.body(0, 12);
            due("goBack(1)", x.goBack(1), 2);
            due("letter(0, 0)", x.letter(0, 0), 11);
            due("told(3)", x.told(3), 0);
        }
    }

    static void promise23_changes_behind_it_can_be_undone() {
        EvenWhite x = new EvenWhite();
        x.keep(0);
        x.goBack(0);
        for (int v = 11; v <= 19; v++) {
            x.body(0, v);
        }
        due("told(13)", x.told(13), 8);
        undone(x, 8);
        due("letter(0, 0)", x.letter(0, 0), 11);
        due("undo()", x.undo(), NOT);
    }

    static void promise23_what_is_undone_leaves_the_images() {
        EvenWhite x = new EvenWhite();
        x.body(0, 11);
        x.keep(0);
        x.letters(1);
        x.undo();
        x.undo();
        due("goBack(0)", x.goBack(0), 2);
        due("letter(0, 0)", x.letter(0, 0), 11);
    }
}
