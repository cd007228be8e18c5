/** Promises 1, 2 and 7 to 14: a new desk, its parts, what rules, acts, plays, carts, steps, and how all stands. */
final class HandBoundaries extends Boundaries {
    static void promise01_thereAreNoParts() {
        HiddenDrawers x = new HiddenDrawers();
        due("parts", x.about(0), 0);
        for (int part = 0; part < 6; part++) {
            due("place", x.place(part), NONE);
            due("on", x.can(2 * part + 1), false);
            due("back", x.can(2 * part), false);
        }
    }

    static void promise01_nothingElseIsToldOrDone() {
        HiddenDrawers x = new HiddenDrawers();
        int[] about = {0, 0, NONE, 0, 0, 0, 0};
        for (int what = 0; what < about.length; what++) due("about " + what, x.about(what), about[what]);
    }

    static void promise01_itIsLevelWithTheBallAt0AndNotOpen() {
        HiddenDrawers x = new HiddenDrawers();
        for (int what = 0; what < 3; what++) due("now " + what, x.now(what), 0);
    }

    static void promise01_theImageIsTheNewObject() {
        HiddenDrawers x = busyWithoutImage();
        due("back", x.back(), 0);
        x.end(0);
        tell(x, "do 15;");
        HiddenDrawers y = new HiddenDrawers();
        tell(y, "do 15;");
        due("all", whole(x), whole(y));
    }

    private static HiddenDrawers busyWithoutImage() {
        HiddenDrawers x = desk("23", "open a=1;tilt 2 set 0 to 1;");
        act(x, 3, 14);
        x.hollow(3);
        x.tried(1, 1);
        return x;
    }

    static void promise01_twoObjectsShareNothing() {
        HiddenDrawers x = new HiddenDrawers();
        HiddenDrawers y = busy();
        y.image();
        y.fewest(NONE);
        due("all", whole(x), whole(new HiddenDrawers()));
        due("tape", y.about(6), 19);
    }

    static void promise01_theObjectCanBeUsedForAll512Calls() {
        HiddenDrawers x = new HiddenDrawers();
        x.part(2);
        for (int call = 2; call < 511; call++) due("call " + call, x.act(1 - call % 2), 1);
        due("call 511", x.place(0), 1);
        due("call 512", x.undo(), 29);
    }

    static void promise02_2and3PlacesAreTaken() {
        HiddenDrawers x = new HiddenDrawers();
        due("2", x.part(2), 0);
        due("3", x.part(3), 1);
        due("its places", x.about(10), 2);
        due("the other's", x.about(11), 3);
    }

    static void promise02_below2PlacesIsRefused() {
        changesNothing("1", x -> x.part(1), NONE);
        changesNothing("0", x -> x.part(0), NONE);
        changesNothing("-1", x -> x.part(-1), NONE);
    }

    static void promise02_above3PlacesIsRefused() {
        changesNothing("4", x -> x.part(4), NONE);
        for (int far : FAR) changesNothing("" + far, x -> x.part(far), NONE);
    }

    static void promise02_theSixthPartIsTakenTheSeventhRefused() {
        HiddenDrawers x = new HiddenDrawers();
        for (int i = 0; i < 6; i++) due("part", x.part(3 - i % 2), i);
        due("7th", x.part(2), NONE);
        due("7th of 3", x.part(3), NONE);
        due("parts", x.about(0), 6);
        changesNothing("7th", Boundaries::full, y -> y.part(2), NONE);
    }

    static void promise02_aRefusedPartTakesNoNumber() {
        HiddenDrawers x = new HiddenDrawers();
        x.part(4);
        due("the first", x.part(3), 0);
        x.part(1);
        due("the second", x.part(2), 1);
    }

    static void promise02_aPartIsAt0AtFirst() {
        HiddenDrawers x = desk("3", "with 0 to 1 set 1 to 1;tilt 1 set 1 to 1;");
        act(x, 1, 13);
        due("part", x.part(2), 1);
        due("where", x.place(1), 0);
        due("where the other is", x.place(0), 1);
    }

    static void promise07_noneIsTaken() {
        HiddenDrawers x = desk("2", "open 1=1;");
        due("by(NONE)", x.by(NONE), true);
        due("no text rules", x.about(2), NONE);
        due("not open", x.now(2), 0);
        due("none of a new one", new HiddenDrawers().by(NONE), true);
    }

    static void promise07_textsThatAreNotToldAreRefused() {
        due("of none", new HiddenDrawers().by(0), false);
        changesNothing("1 of 1", x -> x.by(1) ? 1 : 0, 0);
        changesNothing("-2", x -> x.by(-2) ? 1 : 0, 0);
        changesNothing("4 of 4", Boundaries::full, x -> x.by(4) ? 1 : 0, 0);
        for (int far : FAR) changesNothing("" + far, x -> x.by(far) ? 1 : 0, 0);
    }

    static void promise07_theHighestTextCanRule() {
        HiddenDrawers x = full();
        due("by(3)", x.by(3), true);
        due("it rules", x.about(2), 3);
        due("its sound", x.act(5), 3);
    }

    static void promise07_aFaultyTextCanNotRule() {
        HiddenDrawers x = new HiddenDrawers();
        tell(x, "open 1=1");
        due("by(0)", x.by(0), false);
        due("none rules", x.about(2), NONE);
    }

    static void promise07_aTextTakenBackCanNotRule() {
        HiddenDrawers x = new HiddenDrawers();
        tell(x, "open 1=1;");
        x.by(0);
        x.back();
        due("none rules", x.about(2), NONE);
        due("by(0)", x.by(0), false);
    }

    static void promise08_actsBelow0AndAbove14AreRefused() {
        changesNothing("-1", x -> x.can(-1) ? 1 : 0, 0);
        changesNothing("15", x -> x.can(15) ? 1 : 0, 0);
        for (int far : FAR) changesNothing("" + far, x -> x.can(far) ? 1 : 0, 0);
    }

    static void promise08_theHighestPushAndTiltCanBe() {
        HiddenDrawers x = desk("222222", "");
        due("11", x.can(11), true);
        x.act(11);
        due("10", x.can(10), true);
        due("13", x.can(13), true);
        due("14", x.can(14), true);
        x.act(14);
        due("12", x.can(12), true);
    }

    static void promise08_aPartThatIsNotToldCanNotBePushed() {
        HiddenDrawers x = desk("23", "");
        for (int act = 4; act < 12; act++) due("act " + act, x.can(act), false);
        x.part(2);
        due("told", x.can(5), true);
        due("the next", x.can(7), false);
    }

    static void promise08_noPushBelowPlace0() {
        HiddenDrawers x = desk("23", "");
        due("2 places", x.can(0), false);
        due("3 places", x.can(2), false);
        act(x, 1, 3);
        due("2 places, at 1", x.can(0), true);
        due("3 places, at 1", x.can(2), true);
    }

    static void promise08_noPushAboveTheLastPlace() {
        HiddenDrawers x = desk("23", "");
        act(x, 1, 3);
        due("2 places, at 1", x.can(1), false);
        due("3 places, at 1", x.can(3), true);
        act(x, 3);
        due("3 places, at 2", x.can(3), false);
    }

    static void promise08_aTiltCanBeIfItIsAnotherOne() {
        HiddenDrawers x = new HiddenDrawers();
        for (int tilt = 0; tilt < 3; tilt++) {
            x.act(12 + tilt);
            for (int to = 0; to < 3; to++) due(tilt + " to " + to, x.can(12 + to), to != tilt);
        }
    }

    static void promise08_withoutWhenItIsSo() {
        HiddenDrawers x = desk("222", "when 0 1=2;when 2 1=1;");
        due("not so", x.can(1), false);
        due("without", x.can(3), true);
        due("so", x.can(5), true);
        x.by(NONE);
        due("without a text", x.can(1), true);
    }

    static void promise08_whenIsOfItsPartAlone() {
        for (int part = 0; part < 6; part++) {
            HiddenDrawers x = desk("222222", "when " + part + " 1=2;");
            for (int other = 0; other < 6; other++) due(other + " by when " + part, x.can(2 * other + 1), other != part);
            for (int tilt = 1; tilt < 3; tilt++) due("tilt", x.can(12 + tilt), true);
        }
    }

    static void promise08_whenSeesHowAllIsAheadOfThePush() {
        HiddenDrawers x = desk("3", "when 0 a=0;");
        due("at 0", x.can(1), true);
        x.act(1);
        due("at 1", x.can(1), false);
        due("at 1, back", x.can(0), false);
    }

    static void promise08_onIs1ForOnAnd0ForBack() {
        HiddenDrawers x = desk("33", "when 0 on=1;when 1 on=0;");
        due("on", x.can(1), true);
        due("not on", x.can(3), false);
        act(x, 1);
        x.by(NONE);
        act(x, 3);
        x.by(0);
        due("not back", x.can(0), false);
        due("back", x.can(2), true);
    }

    static void promise08_askingChangesNothing() {
        for (int act = 0; act < 15; act++) {
            int one = act;
            changesNothing("can " + act, x -> x.can(one) || true ? 1 : 0, 1);
        }
    }

    static void promise09_actsBelow0AndAbove14AreRefused() {
        changesNothing("-1", x -> x.act(-1), NONE);
        changesNothing("15", x -> x.act(15), NONE);
        for (int far : FAR) changesNothing("" + far, x -> x.act(far), NONE);
    }

    static void promise09_anActThatCanNotBeChangesNothing() {
        changesNothing("when isn't so", () -> desk("22", "when 0 b=1;with 0 to 1 set 1 to 1;"), x -> x.act(1), NONE);
        changesNothing("no place above", x -> x.act(1), NONE);
        changesNothing("no place below", () -> desk("2", "with 0 to 0 set 0 to 1;"), x -> x.act(0), NONE);
        changesNothing("no such part", x -> x.act(7), NONE);
        changesNothing("that tilt", x -> x.act(14), NONE);
    }

    static void promise09_anActThatCanNotBeIsNoStep() {
        HiddenDrawers x = desk("2", "");
        for (int act : new int[] {0, 3, 12, -1, 15}) x.act(act);
        due("steps", x.about(3), 0);
        due("undo", x.undo(), NONE);
    }

    static void promise09_heardIs0AtLeast() {
        due("-1", desk("2", "sound a-2;").act(1), 0);
        due("0", desk("2", "sound a-1;").act(1), 0);
        due("1", desk("2", "sound a;").act(1), 1);
        due("far below", desk("2", "sound 0-9999*9999;").act(1), 0);
    }

    static void promise09_heardIs9AtMost() {
        due("8", desk("2", "sound 7+a;").act(1), 8);
        due("9", desk("2", "sound 8+a;").act(1), 9);
        due("10", desk("2", "sound 9+a;").act(1), 9);
        due("far above", desk("2", "sound 9999*9999;").act(1), 9);
    }

    static void promise09_withoutSoundHeardIsHowManyPartsMoved() {
        String sets = "with 0 to 1 set 1 to 1;with 0 to 1 set 2 to 1;with 0 to 1 set 3 to 1;with 0 to 1 set 4 to 1;with 0 to 1 set 5 to 1;";
        HiddenDrawers x = desk("222222", sets + "tilt 1 set 0 to 0;");
        due("all six", x.act(1), 6);
        due("one", x.act(0), 1);
        due("one alone, as the rest is there", x.act(1), 1);
        due("a tilt that sets one", x.act(13), 1);
        due("a tilt that sets none", x.act(14), 0);
        x.by(NONE);
        due("without a text", x.act(1), 1);
    }

    static void promise09_aPartSetToWhereItCameFromIsNotHeard() {
        HiddenDrawers x = desk("2", "with 0 to 1 set 0 to 0;");
        due("heard", x.act(1), 0);
        due("place", x.place(0), 0);
        due("it was done", x.about(3), 1);
    }

    static void promise09_soundSeesHowAllIsThen() {
        HiddenDrawers x = desk("33", "sound a+3*b+tilt;with 0 to 1 set 1 to 2;");
        due("a and what it sets", x.act(1), 7);
        x = desk("2", "sound tilt*4+a;tilt 2 set 0 to 1;");
        due("the new tilt and what it sets", x.act(14), 9);
    }

    static void promise09_partIsMinus1AndOnIs0ForATilt() {
        HiddenDrawers x = desk("2", "sound 3+part+3*on;");
        due("a push ahead", x.act(1), 6);
        due("a tilt", x.act(13), 2);
        due("a tilt to level", x.act(12), 2);
    }

    static void promise09_onIs1ForEachPushOnAnd0ForEachBack() {
        HiddenDrawers x = desk("222222", "sound 3+on;");
        for (int part = 0; part < 6; part++) due("on", x.act(2 * part + 1), 4);
        for (int part = 0; part < 6; part++) due("back", x.act(2 * part), 3);
    }

    static void promise09_partIsWhichIsPushed() {
        HiddenDrawers x = desk("222222", "sound part;");
        for (int part = 0; part < 6; part++) due("on", x.act(2 * part + 1), part);
        for (int part = 0; part < 6; part++) due("back", x.act(2 * part), part);
    }

    static void promise09_withIsOfItsPartAndPlaceAlone() {
        HiddenDrawers x = desk("323", "with 0 to 1 set 1 to 1;");
        due("another part to that place", x.act(5), 1);
        due("that part to that place", x.act(1), 2);
        act(x, 2);
        due("to another place", x.act(1), 1);
        due("back to that place", x.act(0), 2);
        act(x, 2);
        due("back to another", x.act(0), 1);
    }

    static void promise09_withDoesNotSetAPartThatIsNotTold() {
        HiddenDrawers x = desk("2", "with 0 to 1 set 1 to 1;with 0 to 1 set 5 to 1;tilt 1 set 1 to 1;");
        due("a push", x.act(1), 1);
        due("a tilt", x.act(13), 0);
        x.part(2);
        due("told since", x.place(1), 0);
        due("then it is set", x.act(0) + x.act(1), 3);
    }

    static void promise09_withDoesNotSetAPlaceThatIsNotThere() {
        HiddenDrawers x = desk("223", "with 0 to 1 set 1 to 2;with 0 to 1 set 2 to 2;tilt 1 set 1 to 2;");
        due("a push", x.act(1), 2);
        due("2 of 2 places", x.place(1), 0);
        due("2 of 3 places", x.place(2), 2);
        due("a tilt", x.act(13), 0);
    }

    static void promise09_ofManyWithTheLastStays() {
        HiddenDrawers x = desk("23", "with 0 to 1 set 1 to 1;with 0 to 1 set 1 to 2;");
        act(x, 1);
        due("last 2", x.place(1), 2);
        x = desk("23", "with 0 to 1 set 1 to 2;with 0 to 1 set 1 to 1;");
        act(x, 1);
        due("last 1", x.place(1), 1);
        x = desk("3", "tilt 1 set 0 to 2;tilt 1 set 0 to 1;");
        act(x, 13);
        due("tilt, last 1", x.place(0), 1);
    }

    static void promise09_asManyWithAsATextCanHoldAreAllDone() {
        HiddenDrawers x = desk("23", times(17, "with0to1set1to1;") + "with0to1set1to2;");
        act(x, 1);
        due("the 18th with", x.place(1), 2);
        x = desk("23", times(22, "tilt1set1to1;") + "tilt1set1to2;");
        act(x, 13);
        due("the 23rd tilt", x.place(1), 2);
    }

    static void promise09_whatIsSetDoesNotSetMore() {
        HiddenDrawers x = desk("222", "with 0 to 1 set 1 to 1;with 1 to 1 set 2 to 1;tilt 1 set 0 to 1;");
        act(x, 13);
        due("by a tilt", x.place(1), 0);
        act(x, 0, 1);
        due("by a push", x.place(1), 1);
        due("no more", x.place(2), 0);
    }

    static void promise09_setToItsOwnOtherPlaceTheRestIsStillOfThePush() {
        HiddenDrawers x = desk("32", "with 0 to 1 set 0 to 2;with 0 to 1 set 1 to 1;with 0 to 2 set 1 to 0;");
        due("heard", x.act(1), 2);
        due("itself", x.place(0), 2);
        due("the other", x.place(1), 1);
    }

    static void promise09_tiltClausesAreOfTheirTiltAlone() {
        for (int tilt = 0; tilt < 3; tilt++) {
            HiddenDrawers x = desk("2", "tilt " + tilt + " set 0 to 1;");
            for (int act : new int[] {13, 14, 12}) due("tilt " + tilt + ", act " + act, x.act(act) + x.act(0), act - 12 == tilt ? 2 : -1);
        }
    }

    static void promise10_textsThatAreNotToldAreRefused() {
        due("of none", new HiddenDrawers().played(0), -2);
        due("NONE of none", new HiddenDrawers().played(NONE), -2);
        changesNothing("1 of 1", x -> x.played(1), -2);
        changesNothing("-1", x -> x.played(-1), -2);
        changesNothing("4 of 4", Boundaries::full, x -> x.played(4), -2);
        for (int far : FAR) changesNothing("" + far, x -> x.played(far), -2);
    }

    static void promise10_aTextWithoutDoIsAllDone() {
        changesNothing("no do", () -> desk("2", "sound 1;open a=1;"), x -> x.played(0), NONE);
        changesNothing("no clause", () -> desk("2", ""), x -> x.played(0), NONE);
    }

    static void promise10_theFirstClauseIs0() {
        HiddenDrawers x = desk("2", "do 0;do 1;");
        due("played", x.played(0), 0);
        due("nothing behind it is done", x.place(0), 0);
        due("no step", x.about(3), 0);
    }

    static void promise10_theNumberIsAmongAllClauses() {
        HiddenDrawers x = desk("2", "sound 1;tilt 0 set 0 to 0;do 1;open a=1;do 1;");
        due("played", x.played(0), 4);
    }

    static void promise10_the24thClauseIs23() {
        HiddenDrawers x = desk("2", times(11, "do1;do0;") + "do 1;do 1;");
        due("played", x.played(0), 23);
        due("steps", x.about(3), 23);
        x = desk("2", times(12, "do1;do0;"));
        due("all 24", x.played(0), NONE);
        due("all 24 steps", x.about(3), 24);
    }

    static void promise10_whatWasDoneStays() {
        HiddenDrawers x = desk("22", "do 1;do 14;do 1;do 3;");
        due("played", x.played(0), 2);
        due("the push", x.place(0), 1);
        due("the tilt", x.now(0), 2);
        due("the ball", x.now(1), 9);
        due("no more", x.place(1), 0);
        due("each is a step", x.about(3), 2);
        due("taken back one by one", x.undo(), 1);
        due("the push still", x.place(0), 1);
    }

    static void promise10_doOfAPartThatIsNotToldEndsIt() {
        HiddenDrawers x = desk("2", "do 1;do 11;do 14;");
        due("played", x.played(0), 1);
        due("no tilt", x.now(0), 0);
    }

    static void promise10_theTextRulesNotThePlayedOne() {
        HiddenDrawers x = desk("23", "when 0 b=1;with 1 to 1 set 0 to 1;");
        tell(x, "when 0 1=1;when 1 1=2;do 3;do 0;");
        due("by the first", x.played(1), NONE);
        x.by(1);
        due("by itself", x.played(1), 2);
        x.by(NONE);
        due("by none", x.played(1), 3);
    }

    static void promise10_steps30AreKeptOfALongPlay() {
        HiddenDrawers x = desk("2", times(12, "do1;do0;"));
        x.played(0);
        x.played(0);
        due("steps", x.about(3), 30);
    }

    static void promise11_theSeedIs0To9999() {
        changesNothing("-1", x -> x.carts(-1, 5), NONE);
        changesNothing("10000", x -> x.carts(10000, 5), NONE);
        for (int far : FAR) if (far < 0 || far > 9999) changesNothing("" + far, x -> x.carts(far, 5), NONE);
        due("0", new HiddenDrawers().carts(0, 3), 3);
        due("9999", new HiddenDrawers().carts(9999, 1), 1);
    }

    static void promise11_nIs1To99() {
        changesNothing("0", x -> x.carts(5, 0), NONE);
        changesNothing("-1", x -> x.carts(5, -1), NONE);
        changesNothing("100", x -> x.carts(5, 100), NONE);
        for (int far : FAR) changesNothing("" + far, x -> x.carts(5, far), NONE);
        due("1", new HiddenDrawers().carts(5, 1), 1);
    }

    static void promise11_theDrawsAreAsTold() {
        for (int seed : new int[] {0, 1, 2, 7, 1234, 3348, 3349, 5000, 9998, 9999}) {
            for (int n : new int[] {1, 2, 3, 10, 98, 99}) {
                HiddenDrawers x = new HiddenDrawers();
                long draw = seed * 9L + 4;
                int done = 0;
                int tilt = 0;
                for (int i = 0; i < n; i++, draw = (draw * 211 + 91) % 30137) {
                    done += draw % 3 == tilt ? 0 : 1;
                    tilt = (int) (draw % 3);
                }
                due("carts " + seed + " " + n, x.carts(seed, n), done);
                due("its tilt", x.now(0), tilt);
            }
        }
    }

    static void promise11_aTiltThatCanNotBeDoesNothing() {
        HiddenDrawers x = desk("2", "tilt 1 set 0 to 1;");
        act(x, 13, 0);
        due("the first draw of 0 is left", x.carts(0, 1), 0);
        due("nothing is set", x.place(0), 0);
    }

    static void promise11_itIsOneStepHoweverMany() {
        HiddenDrawers x = desk("2", "tilt 2 set 0 to 1;");
        due("carts", x.carts(0, 3), 3);
        due("one step", x.about(3), 1);
        due("set", x.place(0), 1);
        due("ball", x.now(1), 9);
        due("undo", x.undo(), 0);
        due("place", x.place(0), 0);
        due("tilt", x.now(0), 0);
        due("ball back", x.now(1), 0);
    }

    static void promise11_itIsOneStepEvenIfNoneWasDone() {
        HiddenDrawers x = new HiddenDrawers();
        act(x, 13);
        due("carts", x.carts(0, 1), 0);
        due("steps", x.about(3), 2);
        due("undo", x.undo(), 1);
        due("tilt", x.now(0), 1);
    }

    static void promise11_the31stStepPushesOutTheFirst() {
        HiddenDrawers x = new HiddenDrawers();
        for (int i = 0; i < 31; i++) x.carts(0, 3);
        due("steps", x.about(3), 30);
        due("undo", x.undo(), 29);
    }

    static void promise11_theBallRollsBehindEachTilt() {
        HiddenDrawers x = desk("", "stops at=3 and tilt=2;");
        x.carts(0, 2);
        due("left, then right up to 2", x.now(1), 2);
        x.carts(0, 1);
        due("left again", x.now(1), 0);
    }

    static void promise12_withoutAStepNone() {
        changesNothing("new", HiddenDrawers::new, x -> x.undo(), NONE);
        HiddenDrawers x = desk("2", "");
        act(x, 1);
        due("one", x.undo(), 0);
        due("none then", x.undo(), NONE);
        due("nothing is done", x.place(0), 0);
    }

    static void promise12_thirtyStepsCanBeTakenBack() {
        HiddenDrawers x = desk("2", "");
        for (int i = 0; i < 30; i++) x.act(i % 2 == 0 ? 1 : 0);
        due("steps", x.about(3), 30);
        for (int i = 29; i >= 0; i--) {
            due("undo", x.undo(), i);
            due("place", x.place(0), i % 2);
        }
        due("none", x.undo(), NONE);
    }

    static void promise12_theThirtyFirstLatestStepStays() {
        HiddenDrawers x = desk("32", "");
        act(x, 1);
        for (int i = 0; i < 30; i++) x.act(i % 2 == 0 ? 3 : 2);
        due("steps", x.about(3), 30);
        for (int i = 29; i >= 0; i--) due("undo", x.undo(), i);
        due("none", x.undo(), NONE);
        due("the first act stays", x.place(0), 1);
        act(x, 1);
        due("steps from none on", x.about(3), 1);
    }

    static void promise12_afterManyStepsTheLatestComesFirst() {
        HiddenDrawers x = desk("333", "");
        int[] acts = {1, 3, 14, 1, 5, 3, 13, 5, 12, 0, 2};
        String[] ahead = new String[66];
        for (int i = 0; i < 66; i++) {
            ahead[i] = stands(x);
            for (int j = 0; j < acts.length && stands(x).equals(ahead[i]); j++) x.act(acts[(i + j) % acts.length]);
        }
        due("steps", x.about(3), 30);
        for (int i = 65; i > 35; i--) {
            x.undo();
            due("ahead of " + i, stands(x), ahead[i]);
        }
        due("none", x.undo(), NONE);
    }

    private static String stands(HiddenDrawers x) {
        return x.place(0) + " " + x.place(1) + " " + x.place(2) + " " + x.now(0) + " " + x.now(1);
    }

    static void promise12_partsToldSinceStayAt0() {
        HiddenDrawers x = desk("2", "");
        act(x, 1);
        x.part(3);
        due("undo", x.undo(), 0);
        due("parts", x.about(0), 2);
        due("where the new one is", x.place(1), 0);
        act(x, 1);
        x.part(3);
        act(x, 5, 5);
        x.undo();
        x.undo();
        x.undo();
        due("parts then", x.about(0), 3);
        due("where the newest is", x.place(2), 0);
    }

    static void promise12_theTextAndWhatWasToldStay() {
        HiddenDrawers x = desk("2", "open a=1;");
        x.by(NONE);
        act(x, 1);
        x.by(0);
        x.hollow(4);
        x.tried(1, 1);
        tell(x, "");
        fill(x, "do");
        x.undo();
        int[] about = {1, 2, 0, 0, 1, 1, 2};
        for (int what = 0; what < about.length; what++) due("about " + what, x.about(what), about[what]);
    }

    static void promise13_partsThatAreNotToldAreNone() {
        HiddenDrawers x = desk("23", "");
        due("-1", x.place(-1), NONE);
        due("1", x.place(1), 0);
        due("2", x.place(2), NONE);
        due("6 of 6", full().place(6), NONE);
        due("5 of 6", full().place(5), 0);
        for (int far : FAR) due("" + far, x.place(far), NONE);
    }

    static void promise13_eachPartHasItsPlace() {
        HiddenDrawers x = desk("333333", "");
        act(x, 1, 1, 3, 7, 7, 9, 11, 11);
        int[] places = {2, 1, 0, 2, 1, 2};
        for (int part = 0; part < 6; part++) due("part " + part, x.place(part), places[part]);
        act(x, 10, 0);
        due("back", x.place(5), 1);
        due("back the first", x.place(0), 1);
    }

    static void promise14_othersAreNone() {
        HiddenDrawers x = busy();
        due("-1", x.now(-1), NONE);
        due("3", x.now(3), NONE);
        for (int far : FAR) due("" + far, x.now(far), NONE);
    }

    static void promise14_tiltIs0To2() {
        HiddenDrawers x = new HiddenDrawers();
        for (int act : new int[] {14, 13, 12}) {
            x.act(act);
            due("tilt", x.now(0), act - 12);
        }
    }

    static void promise14_tiltIsSoWithAllPartsAtTheirLastPlace() {
        HiddenDrawers x = desk("333333", "open a+b+c+d+e+f=12;");
        for (int part = 0; part < 6; part++) act(x, 2 * part + 1, 2 * part + 1);
        for (int act : new int[] {12, 13, 14}) {
            x.act(act);
            due("tilt", x.now(0), act - 12);
            due("open", x.now(2), 1);
            for (int part = 0; part < 6; part++) due("place", x.place(part), 2);
        }
    }

    static void promise14_withoutStopsTheBallRollsToTheEnd() {
        HiddenDrawers x = new HiddenDrawers();
        act(x, 14);
        due("right", x.now(1), 9);
        act(x, 13);
        due("left", x.now(1), 0);
    }

    static void promise14_levelTheBallStays() {
        HiddenDrawers x = desk("2", "stops at=5;");
        act(x, 14, 12);
        due("from 4", x.now(1), 4);
        x.by(NONE);
        act(x, 1);
        due("a push", x.now(1), 4);
    }

    static void promise14_atTheEndsTheBallStays() {
        HiddenDrawers x = desk("2", "");
        act(x, 13);
        due("left of 0", x.now(1), 0);
        act(x, 1);
        due("a push", x.now(1), 0);
        act(x, 14, 0);
        due("right of 9", x.now(1), 9);
    }

    static void promise14_theBallStopsAheadOfEachPlace() {
        for (int at = 1; at <= 9; at++) {
            HiddenDrawers x = desk("", "stops at=" + at + " and tilt=2;");
            act(x, 14);
            due("ahead of " + at, x.now(1), at - 1);
        }
        for (int at = 8; at >= 0; at--) {
            HiddenDrawers x = desk("", "stops at=" + at + " and tilt=1;");
            act(x, 14, 13);
            due("back ahead of " + at, x.now(1), at + 1);
        }
    }

    static void promise14_whereTheBallIsDoesNotStopIt() {
        HiddenDrawers x = desk("", "stops at=0;");
        act(x, 14);
        due("from 0 on", x.now(1), 9);
    }

    static void promise14_stopsIsNotAskedBeyondTheEnds() {
        HiddenDrawers x = desk("", "stops at=10 or at=0-1;");
        act(x, 14);
        due("right", x.now(1), 9);
        act(x, 13);
        due("left", x.now(1), 0);
    }

    static void promise14_theBallRollsBehindAPushToo() {
        HiddenDrawers x = desk("2", "stops at>3+4*a;");
        act(x, 14);
        due("up to 3", x.now(1), 3);
        act(x, 1);
        due("stops sees how all is then", x.now(1), 7);
        act(x, 0);
        due("it doesn't go back", x.now(1), 7);
    }

    static void promise14_theBallDoesNotRollBehindAnActThatCanNotBe() {
        HiddenDrawers x = desk("2", "stops at=5;");
        act(x, 14);
        x.by(NONE);
        act(x, 14, 0, 15, -1);
        due("it stays", x.now(1), 4);
        act(x, 1);
        due("behind one that was done", x.now(1), 9);
    }

    static void promise14_withoutOpenItIsNotOpen() {
        due("a text without", desk("2", "sound 1;").now(2), 0);
        due("no text", new HiddenDrawers().now(2), 0);
        due("open", desk("2", "open a=0;").now(2), 1);
        due("not open", desk("2", "open a=1;").now(2), 0);
    }
}
