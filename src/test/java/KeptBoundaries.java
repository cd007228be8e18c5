/** Promises 22 to 26: hollows and their measures, the image, and what there is. */
final class KeptBoundaries extends Boundaries {
    static void promise22_sizesAre1To99() {
        HiddenDrawers x = new HiddenDrawers();
        due("1", x.hollow(1), 1);
        due("99", x.hollow(99), 2);
        due("its size", x.about(20), 1);
        due("the other's", x.about(21), 99);
    }

    static void promise22_below1AndAbove99AreRefused() {
        changesNothing("0", x -> x.hollow(0), NONE);
        changesNothing("-1", x -> x.hollow(-1), NONE);
        changesNothing("100", x -> x.hollow(100), NONE);
        for (int far : FAR) changesNothing("" + far, x -> x.hollow(far), NONE);
    }

    static void promise22_theTenthIsTakenTheEleventhRefused() {
        HiddenDrawers x = new HiddenDrawers();
        for (int i = 1; i <= 10; i++) due("hollow", x.hollow(i), i);
        due("11th", x.hollow(5), NONE);
        due("there are", x.about(5), 10);
        due("the last", x.about(29), 10);
        changesNothing("11th", Boundaries::full, y -> y.hollow(1), NONE);
    }

    static void promise22_aRefusedHollowIsNone() {
        HiddenDrawers x = new HiddenDrawers();
        x.hollow(100);
        due("the first", x.hollow(7), 1);
        due("its size", x.about(20), 7);
    }

    static void promise23_measuresAre1To999() {
        HiddenDrawers x = full();
        due("1", x.measure(1, NONE), 1);
        due("999", x.measure(999, NONE), 0);
        due("0", x.measure(0, NONE), NONE);
        due("-1", x.measure(-1, NONE), NONE);
        due("1000", x.measure(1000, NONE), NONE);
        for (int far : FAR) if (far < 1 || far > 999) due("" + far, x.measure(far, NONE), NONE);
        due("0, first", x.measure(0, 0), NONE);
        due("1000, first", x.measure(1000, 0), NONE);
    }

    static void promise23_0SetsIfThereAreNone() {
        due("no hollows", new HiddenDrawers().measure(1, NONE), 0);
        due("no first", new HiddenDrawers().measure(1, 0), NONE);
        HiddenDrawers x = busy();
        due("no such", x.measure(6, NONE), 0);
        due("no first such", x.measure(6, 0), NONE);
    }

    static void promise23_theIthIsBelowHowMany() {
        HiddenDrawers x = new HiddenDrawers();
        for (int size : new int[] {1, 2, 3, 3}) x.hollow(size);
        due("how many", x.measure(6, NONE), 3);
        int[] sets = {7, 11, 12};
        for (int i = 0; i < 3; i++) due("set " + i, x.measure(6, i), sets[i]);
        due("set 3", x.measure(6, 3), NONE);
        for (int far : FAR) due("" + far, x.measure(6, far), NONE);
    }

    static void promise23_belowNoneIsRefused() {
        due("-2", busy().measure(5, -2), NONE);
        due("-2 of none", busy().measure(6, -2), NONE);
    }

    static void promise23_oneHollowAndAllTen() {
        HiddenDrawers x = new HiddenDrawers();
        for (int i = 0; i < 10; i++) x.hollow(99);
        due("one of ten", x.measure(99, NONE), 10);
        due("the lowest", x.measure(99, 0), 1);
        due("the highest", x.measure(99, 9), 512);
        due("all", x.measure(990, NONE), 1);
        due("all of them", x.measure(990, 0), 1023);
        due("five of ten", x.measure(495, NONE), 252);
        due("the last of these", x.measure(495, 251), 992);
        due("behind it", x.measure(495, 252), NONE);
        due("one too many", x.measure(991, NONE), 0);
    }

    static void promise23_changesNothing() {
        changesNothing("how many", x -> x.measure(12, NONE), 1);
        changesNothing("the first", x -> x.measure(12, 0), 3);
        changesNothing("no measure", x -> x.measure(1000, 0), NONE);
    }

    static void promise24_howManyPartsThereAre() {
        due("none", new HiddenDrawers().image(), 0);
        due("three", busy().image(), 3);
        due("six", full().image(), 6);
    }

    static void promise24_theLatestImageCounts() {
        HiddenDrawers x = desk("3", "");
        x.image();
        act(x, 1);
        x.image();
        act(x, 1);
        x.back();
        due("place", x.place(0), 1);
    }

    static void promise24_itChangesNothingElse() {
        HiddenDrawers x = busy();
        String ahead = shown(x);
        x.image();
        due("all", shown(x), ahead);
    }

    static void promise24_whatIsDoneLaterIsNotInIt() {
        HiddenDrawers x = desk("23", "open a=1;");
        act(x, 3, 14);
        x.hollow(4);
        x.tried(3, 1);
        x.image();
        String ahead = shown(x);
        x.part(3);
        act(x, 1, 13, 5);
        x.hollow(5);
        x.tried(1, 1);
        x.by(NONE);
        x.back();
        due("all", shown(x), ahead);
    }

    static void promise25_allIsSoAgain() {
        HiddenDrawers x = full();
        x.image();
        String ahead = shown(x);
        for (int i = 0; i < 31; i++) x.undo();
        x.forget();
        x.tried(14, 9);
        x.by(3);
        x.carts(7, 99);
        due("another now", shown(x).equals(ahead), false);
        due("back", x.back(), 6);
        due("all", shown(x), ahead);
        due("with its steps", x.undo(), 29);
    }

    static void promise25_stepsAreSoAgain() {
        HiddenDrawers x = desk("32", "");
        act(x, 1, 14, 3);
        x.image();
        x.undo();
        x.undo();
        x.undo();
        act(x, 13, 3, 2, 12, 1);
        x.back();
        due("steps", x.about(3), 3);
        int[][] behind = {{2, 1, 0, 2, 9}, {1, 1, 0, 0, 0}, {0, 0, 0, 0, 0}};
        for (int[] one : behind) {
            due("undo", x.undo(), one[0]);
            due("place 0", x.place(0), one[1]);
            due("place 1", x.place(1), one[2]);
            due("tilt", x.now(0), one[3]);
            due("ball", x.now(1), one[4]);
        }
        due("none", x.undo(), NONE);
    }

    static void promise25_theTapeStaysAsItIs() {
        HiddenDrawers x = desk("2", "");
        fill(x, "do 1;");
        x.image();
        fill(x, "sound 7;");
        x.back();
        due("bytes", x.about(6), 8);
        due("text", x.text(), 1);
        x.by(1);
        due("its sound", x.act(1), 7);
        x.back();
        due("an empty tape stays empty", x.about(6), 0);
    }

    static void promise25_theLatestFaultStaysAsItIs() {
        HiddenDrawers x = new HiddenDrawers();
        x.image();
        tell(x, "do 15;");
        x.back();
        due("fault", x.fault(0), 2);
        due("place", x.fault(1), 3);
    }

    static void promise25_theImageStays() {
        HiddenDrawers x = desk("3", "");
        x.image();
        for (int i = 0; i < 3; i++) {
            act(x, 1, 1);
            x.part(2);
            due("back", x.back(), 1);
            due("place", x.place(0), 0);
            due("steps", x.about(3), 0);
        }
    }

    static void promise25_aPartToldSinceIsGone() {
        HiddenDrawers x = desk("2", "");
        x.image();
        x.part(3);
        act(x, 3, 3);
        due("back", x.back(), 1);
        due("place", x.place(1), NONE);
        due("places", x.about(11), -2);
        due("push", x.can(3), false);
        due("told again", x.part(2), 1);
        due("at 0", x.place(1), 0);
        act(x, 3);
        due("with two places", x.can(3), false);
    }

    static void promise25_textsToldSinceAreGone() {
        HiddenDrawers x = desk("2", "sound 4;");
        tell(x, "sound 5;");
        x.image();
        tell(x, "sound 6;");
        tell(x, "sound 7;");
        x.by(3);
        x.back();
        due("texts", x.about(1), 2);
        due("THE TEXT", x.about(2), 0);
        due("by(2)", x.by(2), false);
        due("fits", x.fits(), 3);
        due("told anew", tell(x, "sound 8;"), 2);
        x.by(2);
        due("the new one", x.act(1), 8);
        x.by(1);
        due("the second", x.act(0), 5);
        x.back();
        due("the first", x.act(1), 4);
    }

    static void promise25_noTextRulesAgain() {
        HiddenDrawers x = new HiddenDrawers();
        x.part(2);
        tell(x, "when 0 1=2;");
        x.image();
        x.by(0);
        x.back();
        due("THE TEXT", x.about(2), NONE);
        due("it can", x.can(1), true);
    }

    static void promise25_hollowsAndTrialsAreSoAgain() {
        HiddenDrawers x = desk("2", "");
        x.hollow(3);
        x.tried(1, 1);
        x.image();
        x.hollow(4);
        x.tried(1, 1);
        x.forget();
        x.tried(0, 9);
        x.back();
        due("hollows", x.about(5), 1);
        due("no second", x.about(21), -2);
        due("no measure", x.measure(7, NONE), 0);
        due("trials", x.about(4), 1);
        due("fits", x.fits(), 1);
        x.forget();
        x.back();
        due("trials again", x.about(4), 1);
        due("fits again", x.fits(), 1);
    }

    static void promise25_aheadOfAnyImageItIsTheNewObject() {
        HiddenDrawers x = desk("2", "open a=1;");
        act(x, 1, 14);
        x.hollow(1);
        due("back", x.back(), 0);
        HiddenDrawers y = new HiddenDrawers();
        tell(x, "!");
        tell(y, "!");
        due("all", shown(x), shown(y));
    }

    static void promise26_howManyThereAreAtMost() {
        HiddenDrawers x = full();
        int[] about = {6, 4, 0, 30, 12, 10, 300};
        for (int what = 0; what < about.length; what++) due("about " + what, x.about(what), about[what]);
    }

    static void promise26_othersAreMinus2() {
        HiddenDrawers x = full();
        for (int what : new int[] {-1, -2, 7, 8, 9, 16, 17, 18, 19, 30, 31, 100}) due("about " + what, x.about(what), -2);
        for (int far : FAR) due("about " + far, x.about(far), -2);
    }

    static void promise26_partsThatAreNotToldAreMinus2() {
        HiddenDrawers x = new HiddenDrawers();
        for (int part = 0; part < 6; part++) {
            for (int other = 0; other < 6; other++) due(other + " of " + part, x.about(10 + other), other < part ? 2 + other % 2 : -2);
            x.part(2 + part % 2);
        }
        due("the last", x.about(15), 3);
    }

    static void promise26_hollowsThatAreNotToldAreMinus2() {
        HiddenDrawers x = new HiddenDrawers();
        for (int hollow = 0; hollow < 10; hollow++) {
            for (int other = 0; other < 10; other++) due(other + " of " + hollow, x.about(20 + other), other < hollow ? 9 * other + 1 : -2);
            x.hollow(9 * hollow + 1);
        }
        due("the last", x.about(29), 82);
    }

    static void promise26_withoutATextNone() {
        HiddenDrawers x = desk("2", "");
        due("0 rules", x.about(2), 0);
        x.by(NONE);
        due("none rules", x.about(2), NONE);
        due("new", new HiddenDrawers().about(2), NONE);
    }
}
