import java.util.ArrayList;
import java.util.Arrays;
import java.util.HashSet;
import java.util.List;
import java.util.Set;

/** Promises 15 to 21: fewest acts, acts that shut it for ever, what was tried, and what opens it whatever rules. */
final class SearchBoundaries extends Boundaries {
    // These let exactly so many standings be: 729 with f at 0, and level those with f at 1 (200, 201) and at 2 (71).
    private static final String FROZEN_BY_F = "when0f=0;when1f=0;when2f=0;when3f=0;when4f=0;tilt1set5to0;tilt2set5to0;";
    private static final String OF_1000 = FROZEN_BY_F + "when5tilt=0and a+3*b+9*c+27*d+81*e+129*f<200;";
    private static final String OF_1001 = FROZEN_BY_F + "when5tilt=0and a+3*b+9*c+27*d+81*e+130*f<201;";
    private static final String ALL_AT_2 = "open a=2 and b=2 and c=2 and d=2 and e=2 and f=2 and tilt=2;";

    static void promise15_0IfItIsOpen() {
        HiddenDrawers x = desk("2", "open a=0;");
        due("how many", x.fewest(NONE), 0);
        due("no first", x.fewest(0), NONE);
    }

    static void promise15_theIthIsBelowHowMany() {
        HiddenDrawers x = desk("32", "open a=2 and b=1 and tilt=2;");
        due("how many", x.fewest(NONE), 4);
        int[] acts = {1, 1, 3, 14};
        for (int i = 0; i < 4; i++) due("act " + i, x.fewest(i), acts[i]);
        due("act 4", x.fewest(4), NONE);
        for (int far : FAR) due("" + far, x.fewest(far), NONE);
    }

    static void promise15_belowNoneIsRefused() {
        due("open", desk("2", "open a=0;").fewest(-2), NONE);
        due("one act", desk("2", "open a=1;").fewest(-2), NONE);
        due("too many", desk("333333", ALL_AT_2).fewest(-2), NONE);
        changesNothing("-2", x -> x.fewest(-2), NONE);
    }

    static void promise15_noneIfItCanNotBeOpen() {
        HiddenDrawers x = desk("22", "when 0 1=2;open a=1;");
        due("how many", x.fewest(NONE), NONE);
        due("first", x.fewest(0), NONE);
    }

    static void promise15_noneWithoutOpenOrWithoutText() {
        due("without open", desk("22", "").fewest(NONE), NONE);
        due("without text", new HiddenDrawers().fewest(NONE), NONE);
        HiddenDrawers x = desk("2", "open a=0;");
        x.by(NONE);
        due("by none", x.fewest(NONE), NONE);
    }

    static void promise15_ofLikeOnesTheLowestFirstThenTheSecond() {
        HiddenDrawers x = desk("222", "open a=1 and tilt=2 or b=1 and c=1 or a=1 and tilt=1;");
        due("first", x.fewest(0), 1);
        due("second", x.fewest(1), 13);
        x = desk("22", "open tilt=1 and b=1;");
        due("a push ahead of a tilt", x.fewest(0), 3);
        x = desk("222", "when 0 c=1;open a=1 or b=1 and tilt=1;");
        due("3 13, not 5 1", x.fewest(0), 3);
    }

    static void promise15_itIsFromHowAllStands() {
        HiddenDrawers x = desk("32", "open a=2;");
        act(x, 1, 14);
        due("one more", x.fewest(NONE), 1);
        act(x, 1);
        due("open", x.fewest(NONE), 0);
        x.undo();
        due("taken back", x.fewest(NONE), 1);
    }

    static void promise15_aPartToldSinceCounts() {
        HiddenDrawers x = desk("2", "open b=1;");
        due("not told", x.fewest(NONE), NONE);
        x.part(2);
        due("told", x.fewest(NONE), 1);
        x.by(NONE);
        due("by none", x.fewest(NONE), NONE);
        x.by(0);
        due("ruled again", x.fewest(0), 3);
    }

    static void promise15_nothingIsLeftOfAnEarlierSearch() {
        HiddenDrawers x = desk("222222", "open 1=2;");
        tell(x, "when0c=1;when1c=1;when2 1=2;when3 1=2;when4 1=2;when5 1=2;open a=1 or b=1;");
        due("all standings", x.fewest(NONE), NONE);
        x.by(1);
        due("three standings", x.fewest(NONE), NONE);
        due("likewise whatever rules", x.whatever(2, NONE), NONE);
    }

    static void promise15_changesNothing() {
        changesNothing("how many", x -> x.fewest(NONE), 1);
        changesNothing("the first", x -> x.fewest(0), 13);
    }

    static void promise15_1000StandingsNoneOpenIsNone() {
        due("972", desk("333322", "open 1=2;").fewest(NONE), NONE);
        due("1000", desk("333333", OF_1000).fewest(NONE), NONE);
        due("1000, the first", desk("333333", OF_1000).fewest(0), NONE);
    }

    static void promise15_1001StandingsNoneOpenIsSpent() {
        due("1001", desk("333333", OF_1001).fewest(NONE), SPENT);
        due("1001, the first", desk("333333", OF_1001).fewest(0), SPENT);
        due("1458", desk("333332", "open 1=2;").fewest(NONE), SPENT);
    }

    static void promise15_withoutATextTooManyStandingsAreSpent() {
        HiddenDrawers x = desk("333333", "open a=1;");
        due("by a text", x.fewest(NONE), 1);
        x.by(NONE);
        due("by none", x.fewest(NONE), SPENT);
    }

    static void promise15_the1000thStandingCanBeOpen() {
        for (int n = 996; n <= 1000; n++) fewestTo(n);
    }

    static void promise15_the1001stStandingIsSpentEvenIfOpen() {
        for (int n = 1001; n <= 1005; n++) fewestTo(n);
    }

    private static void fewestTo(int n) {
        Found found = nthFound(n, false);
        HiddenDrawers x = desk("333333", openAt(found, 0));
        due("open as the " + n + "th standing", x.fewest(NONE), n <= 1000 ? found.acts : SPENT);
        due("its first act", x.fewest(0), n <= 1000 ? found.firstAct : SPENT);
        due("an act that isn't there", x.fewest(99), n <= 1000 ? NONE : SPENT);
    }

    /** Six PLACES by each of one or two laws, and TILT; how many acts lead to it, and the first of them. */
    private static final class Found {
        final int[] stands;
        final int acts;
        final int firstAct;

        Found(int[] stands, int acts, int firstAct) {
            this.stands = stands;
            this.acts = acts;
            this.firstAct = firstAct;
        }
    }

    /** The standing that is found as the n-th. With two laws the first moves PARTS while level, the second while tilted left. */
    private static Found nthFound(int n, boolean two) {
        List<Found> all = new ArrayList<>();
        Set<String> seen = new HashSet<>();
        all.add(new Found(new int[13], 0, NONE));
        seen.add(Arrays.toString(new int[13]));
        for (int i = 0; all.size() < n; i++) {
            Found from = all.get(i);
            for (int act = 0; act < 15; act++) {
                int[] next = from.stands.clone();
                if (act >= 12) next[12] = act - 12;
                for (int law = 0; law < (two ? 2 : 1) && act < 12; law++) {
                    int at = 6 * law + act / 2;
                    int to = next[at] + (act % 2 == 1 ? 1 : -1);
                    if (to >= 0 && to <= 2 && (!two || next[12] == law)) next[at] = to;
                }
                if (seen.add(Arrays.toString(next))) all.add(new Found(next, from.acts + 1, i == 0 ? act : from.firstAct));
            }
        }
        return all.get(n - 1);
    }

    private static String openAt(Found found, int law) {
        StringBuilder text = new StringBuilder("open tilt=").append(found.stands[12]);
        for (int i = 0; i < 6; i++) text.append(" and ").append((char) ('a' + i)).append('=').append(found.stands[6 * law + i]);
        return text.append(';').toString();
    }

    static void promise16_withoutOpenAllThatCanBe() {
        due("new", new HiddenDrawers().forever(), 1 << 13 | 1 << 14);
        HiddenDrawers x = desk("23", "");
        due("without open", x.forever(), 1 << 1 | 1 << 3 | 1 << 13 | 1 << 14);
        act(x, 3, 14);
        due("then", x.forever(), 1 << 1 | 1 << 2 | 1 << 3 | 1 << 12 | 1 << 13);
    }

    static void promise16_actsThatCanNotBeAreNotAmongThem() {
        HiddenDrawers x = desk("22", "when 0 1=2;open 1=2;");
        due("forever", x.forever(), 1 << 3 | 1 << 13 | 1 << 14);
    }

    static void promise16_openRightBehindTheActIsNotForEver() {
        HiddenDrawers x = desk("2", "when 0 a=0;open a=1 and tilt=0;tilt 1 set 0 to 0;tilt 2 set 0 to 0;");
        due("forever", x.forever(), 0);
        x = desk("22", "when 0 a=0;when 1 a=0;open a=1;");
        due("one act opens it", x.forever(), 0);
    }

    static void promise16_openNowDoesNotCount() {
        HiddenDrawers x = desk("2", "when 0 on=1;open a=0;");
        due("open", x.now(2), 1);
        due("the push shuts it", x.forever(), 1 << 1);
    }

    static void promise16_whatOpensItAgainIsNotForEver() {
        HiddenDrawers x = desk("2", "open a=0;");
        due("it can come back", x.forever(), 0);
    }

    static void promise16_theHighestActs() {
        HiddenDrawers x = desk("222222", "open f=0 and a=0;tilt 1 set 0 to 1;tilt 2 set 0 to 1;when 5 on=1;when 0 1=2;");
        due("11, 13, 14", x.forever(), 1 << 11 | 1 << 13 | 1 << 14);
        x = desk("222222", "open 1=2;");
        for (int part = 0; part < 6; part++) act(x, 2 * part + 1);
        act(x, 14);
        due("all pushes back, and 12, 13", x.forever(), 0x555 | 1 << 12 | 1 << 13);
    }

    static void promise16_manyActsCanLeadToOpen() {
        HiddenDrawers x = desk("333", "open b=2 and c=2;when 0 on=1;");
        act(x, 1, 13);
        due("four acts", x.forever(), 0);
        x = desk("33", "open b=2;when 1 a=0;when 0 on=1;");
        due("a shuts it", x.forever(), 1 << 1);
    }

    static void promise16_nothingIsLeftOfWhatWasAskedBefore() {
        HiddenDrawers x = desk("22", "open a=1;");
        tell(x, "when 0 b=0;when 1 on=1;open a=1;");
        due("freely", x.forever(), 0);
        x.by(1);
        due("b shuts it", x.forever(), 1 << 3);
        x.by(0);
        due("freely again", x.forever(), 0);
        x = desk("333333", ALL_AT_2);
        for (int i = 0; i < 4; i++) due("2187 standings again", x.forever(), 0);
    }

    static void promise16_itHasNoLimit() {
        HiddenDrawers x = desk("333333", ALL_AT_2);
        due("2187 standings", x.forever(), 0);
        x = desk("333333", "when5on=1;open f=0 and a+b+c+d+e=10 and tilt=2;");
        due("2187, one push shuts it", x.forever(), 1 << 11);
        x.by(NONE);
        due("2187, never", x.forever(), 0xAAA | 1 << 13 | 1 << 14);
    }

    static void promise16_changesNothing() {
        changesNothing("forever", x -> x.forever() < 0 ? 1 : 0, 0);
    }

    static void promise17_actsAre0To14() {
        changesNothing("-1", x -> x.tried(-1, 0), NONE);
        changesNothing("15", x -> x.tried(15, 0), NONE);
        for (int far : FAR) changesNothing("" + far, x -> x.tried(far, 0), NONE);
        due("0", new HiddenDrawers().tried(0, 0), 1);
        due("14", new HiddenDrawers().tried(14, 0), 1);
    }

    static void promise17_heardIs0To9OrNone() {
        changesNothing("10", x -> x.tried(0, 10), NONE);
        changesNothing("-2", x -> x.tried(0, -2), NONE);
        for (int far : FAR) changesNothing("" + far, x -> x.tried(0, far), NONE);
        due("9", new HiddenDrawers().tried(0, 9), 1);
        due("NONE", new HiddenDrawers().tried(0, NONE), 1);
    }

    static void promise17_theTwelfthIsTakenTheThirteenthRefused() {
        HiddenDrawers x = new HiddenDrawers();
        for (int i = 1; i <= 12; i++) due("tried", x.tried(0, NONE), i);
        due("13th", x.tried(0, NONE), NONE);
        due("there are", x.about(4), 12);
        changesNothing("13th", Boundaries::full, y -> y.tried(0, NONE), NONE);
    }

    static void promise17_anActThatCanNotBeIsTakenToo() {
        HiddenDrawers x = new HiddenDrawers();
        due("no such part", x.tried(11, 3), 1);
        due("no place", x.tried(0, 0), 2);
        due("nothing is done", x.about(3), 0);
    }

    static void promise18_howManyThereWere() {
        HiddenDrawers x = full();
        due("12", x.forget(), 12);
        due("there are", x.about(4), 0);
        due("none", x.forget(), 0);
        due("tried from 1 on", x.tried(0, 0), 1);
    }

    static void promise18_withoutAnyNothingChanges() {
        changesNothing("none", () -> desk("2", "open a=1;"), x -> x.forget(), 0);
    }

    static void promise18_whatWasForgottenDoesNotCount() {
        HiddenDrawers x = desk("2", "");
        x.tried(1, 5);
        due("it fits not", x.fits(), 0);
        x.forget();
        due("it fits", x.fits(), 1);
        x.tried(1, 1);
        due("and so on", x.fits(), 1);
    }

    static void promise19_noTextsNoneFit() {
        due("new", new HiddenDrawers().fits(), 0);
    }

    static void promise19_nothingTriedAllFit() {
        HiddenDrawers x = full();
        x.forget();
        due("four", x.fits(), 15);
        due("one", desk("2", "").fits(), 1);
    }

    static void promise19_theTwelfthTrialCounts() {
        HiddenDrawers x = desk("2", "");
        tell(x, "when 0 1=1;");
        tell(x, "sound part-part+1;");
        for (int i = 0; i < 11; i++) x.tried(i % 2 == 0 ? 1 : 0, 1);
        due("behind 11", x.fits(), 7);
        due("the 12th", x.tried(13, 0), 12);
        due("behind 12", x.fits(), 3);
    }

    static void promise19_theFirstTrialCounts() {
        HiddenDrawers x = desk("2", "");
        x.tried(1, 2);
        x.tried(0, 1);
        due("one wrong", x.fits(), 0);
    }

    static void promise19_noneMeansItCouldNotBe() {
        HiddenDrawers x = desk("2", "when 0 1=2;");
        tell(x, "sound 0;");
        x.tried(1, NONE);
        due("can't", x.fits(), 1);
        x.forget();
        x.tried(1, 0);
        due("heard 0", x.fits(), 2);
        x.forget();
        x.tried(3, NONE);
        due("no such part", x.fits(), 3);
        x.tried(12, NONE);
        due("level already", x.fits(), 3);
        x.tried(0, NONE);
        due("no place below", x.fits(), 3);
    }

    static void promise19_itStartsFromAllAt0AndLevel() {
        HiddenDrawers x = desk("23", "");
        act(x, 1, 3, 14);
        x.tried(1, 1);
        x.tried(3, 1);
        x.tried(12, NONE);
        x.tried(14, 0);
        due("as if nothing was done", x.fits(), 1);
        x.tried(14, 0);
        due("tilted already", x.fits(), 0);
    }

    static void promise19_theRulingTextDoesNotMatter() {
        HiddenDrawers x = desk("2", "when 0 1=2;");
        tell(x, "");
        x.tried(1, 1);
        for (int text = NONE; text < 2; text++) {
            x.by(text);
            due("by " + text, x.fits(), 2);
        }
    }

    static void promise19_soundAbove9IsHeardAs9() {
        HiddenDrawers x = desk("2", "sound 12;");
        x.tried(1, 9);
        due("9", x.fits(), 1);
        x.tried(0, 8);
        due("8", x.fits(), 0);
    }

    static void promise19_theFourthText() {
        HiddenDrawers x = desk("2", "sound 1;");
        for (int i = 2; i <= 4; i++) tell(x, "sound " + i + ";");
        for (int i = 1; i <= 4; i++) {
            x.tried(1, i);
            due("sound " + i, x.fits(), 1 << i - 1);
            x.forget();
        }
    }

    static void promise20_noneIfNoneFits() {
        due("no texts", new HiddenDrawers().next(), NONE);
        HiddenDrawers x = desk("2", "");
        x.tried(1, 5);
        due("none fits", x.next(), NONE);
    }

    static void promise20_ofLikeOnesTheLowest() {
        due("one text", desk("2", "").next(), 0);
        HiddenDrawers x = desk("222", "");
        tell(x, "when 1 1=2;when 2 1=2;");
        due("3 and 5 tell alike", x.next(), 3);
    }

    static void promise20_fourAlikeTheLowest() {
        HiddenDrawers x = desk("2", "");
        for (int i = 1; i < 4; i++) tell(x, "");
        due("all alike", x.next(), 0);
        x.tried(0, NONE);
        due("still", x.next(), 0);
    }

    static void promise20_theHighestActCanTellMost() {
        HiddenDrawers x = desk("", "sound 5;");
        tell(x, "sound 5-tilt/2;");
        due("14", x.next(), 14);
        x = desk("222222", "");
        tell(x, "when 5 1=2;");
        due("11", x.next(), 11);
    }

    static void promise20_heardAndThatItCanNotBeAreUnlike() {
        HiddenDrawers x = desk("2", "sound 0;");
        tell(x, "sound 0;when 0 1=2;");
        due("1", x.next(), 1);
    }

    static void promise20_theMostAlikeAreToBeFewest() {
        HiddenDrawers x = desk("222", "sound 5;");
        tell(x, "sound 5+b+c;");
        tell(x, "sound 5+b+2*c-a/9;");
        tell(x, "sound 5+a-b;when 2 1=2;");
        due("1: 3 alike, 3: 2 alike, 5: all unlike", x.next(), 5);
        x = desk("22", "");
        tell(x, "when 0 1=2;when 1 1=2;");
        tell(x, "when 1 1=2;");
        tell(x, "");
        due("1: 3 alike, 3: 2 alike", x.next(), 3);
    }

    static void promise20_twoAndTwoAreAsGoodAsTwoOneAndOne() {
        HiddenDrawers x = desk("22", "sound a;");
        tell(x, "sound a+b;");
        tell(x, "sound 3*a+2*b;");
        tell(x, "sound 3*a+2*b;");
        due("1: 1 1 3 3; 3: 0 1 2 2", x.next(), 1);
    }

    static void promise20_thoseThatDoNotFitAreNotAmongThem() {
        HiddenDrawers x = desk("22", "");
        tell(x, "when 1 1=2;");
        tell(x, "when 0 1=2;");
        x.tried(1, NONE);
        due("one fits", x.next(), 0);
        x.forget();
        x.tried(1, 1);
        due("two fit: 3 tells", x.next(), 3);
    }

    static void promise20_itIsBehindAllThatWasTried() {
        HiddenDrawers x = desk("22", "");
        tell(x, "when 1 a=0;");
        due("0: no act tells", x.next(), 0);
        x.tried(1, 1);
        due("behind 1: 3 tells", x.next(), 3);
        x.tried(0, 1);
        due("behind 0: none", x.next(), 0);
    }

    static void promise20_changesNothing() {
        changesNothing("next", x -> x.next(), 0);
        changesNothing("fits", x -> x.fits(), 1);
    }

    static void promise21_noTextIsRefused() {
        changesNothing("0", x -> x.whatever(0, NONE), NONE);
        changesNothing("0, 0", x -> x.whatever(0, 0), NONE);
        due("of none", new HiddenDrawers().whatever(0, NONE), NONE);
        due("1 of none", new HiddenDrawers().whatever(1, NONE), NONE);
    }

    static void promise21_textsThatAreNotToldAreRefused() {
        HiddenDrawers x = desk("2", "open a=0;");
        due("1", x.whatever(1, NONE), 0);
        for (int texts : new int[] {2, 3, 4, 5, 8, 9, 16, 17, 32, -1, -2, 1 << 30, 1 << 31}) due("" + texts, x.whatever(texts, NONE), NONE);
        for (int far : FAR) due("" + far, x.whatever(far, NONE), NONE);
        x = fourOpen();
        for (int texts : new int[] {16, 17, 20, 24, 32, -8, -16}) due(texts + " of four", x.whatever(texts, NONE), NONE);
    }

    private static HiddenDrawers fourOpen() {
        HiddenDrawers x = desk("2", "open a=0;");
        for (int i = 1; i < 4; i++) tell(x, "open a=0;");
        return x;
    }

    static void promise21_threeOrFourTextsAreRefused() {
        HiddenDrawers x = fourOpen();
        for (int texts = 0; texts < 16; texts++) {
            int many = Integer.bitCount(texts);
            due("" + texts, x.whatever(texts, NONE), many == 1 || many == 2 ? 0 : NONE);
        }
    }

    static void promise21_belowNoneIsRefused() {
        due("open", fourOpen().whatever(1, -2), NONE);
        HiddenDrawers x = desk("333333", "open a=1;");
        due("one act", x.whatever(1, -2), NONE);
        due("one act, far", x.whatever(1, Integer.MIN_VALUE), NONE);
    }

    static void promise21_0IfItIsOpenByEach() {
        HiddenDrawers x = fourOpen();
        due("how many", x.whatever(9, NONE), 0);
        due("no first", x.whatever(9, 0), NONE);
    }

    static void promise21_theIthIsBelowHowMany() {
        HiddenDrawers x = desk("22", "when 0 b=1;open a=1;");
        tell(x, "when 1 a=1;open b=1;");
        due("how many", x.whatever(3, NONE), 3);
        int[] acts = {1, 3, 1};
        for (int i = 0; i < 3; i++) due("act " + i, x.whatever(3, i), acts[i]);
        due("act 3", x.whatever(3, 3), NONE);
        for (int far : FAR) due("" + far, x.whatever(3, far), NONE);
    }

    static void promise21_itIsToBeOpenByBothAtOnce() {
        HiddenDrawers x = desk("2", "open a=1;");
        tell(x, "open a=0;");
        due("never both", x.whatever(3, NONE), NONE);
        due("the one", x.whatever(1, NONE), 1);
        due("the other", x.whatever(2, NONE), 0);
        x = desk("2", "open a=1;");
        tell(x, "when 0 tilt=1;open a=0 and tilt=0;");
        due("1 can't be by the second", x.whatever(3, NONE), 1);
    }

    static void promise21_anActThatCanNotBeChangesNothing() {
        HiddenDrawers x = desk("22", "when 0 b=1;with 0 to 1 set 1 to 0;open a=1;");
        tell(x, "when 1 1=2;open a=1;");
        due("how many", x.whatever(3, NONE), 2);
        due("first", x.whatever(3, 0), 3);
        due("then", x.whatever(3, 1), 1);
    }

    static void promise21_itStartsFromAllAt0AndLevel() {
        HiddenDrawers x = desk("3", "open a=1 and tilt=1;");
        act(x, 1, 1, 14);
        due("how many", x.whatever(1, NONE), 2);
        due("first", x.whatever(1, 0), 1);
        due("then", x.whatever(1, 1), 13);
        due("from now it is otherwise", x.fewest(0), 0);
    }

    static void promise21_theRulingTextDoesNotMatter() {
        HiddenDrawers x = desk("2", "open a=0;");
        tell(x, "open a=1;");
        x.by(NONE);
        due("by none", x.whatever(2, NONE), 1);
        x.by(0);
        due("by 0", x.whatever(2, NONE), 1);
    }

    static void promise21_eachPairIsItself() {
        HiddenDrawers x = desk("2222", "open a=1;");
        tell(x, "open b=1;");
        tell(x, "open c=1;");
        tell(x, "open d=1;");
        for (int low = 0; low < 4; low++) {
            for (int high = low; high < 4; high++) {
                int texts = 1 << low | 1 << high;
                due("first of " + texts, x.whatever(texts, 0), 2 * low + 1);
                due("second of " + texts, x.whatever(texts, 1), low == high ? NONE : 2 * high + 1);
            }
        }
    }

    static void promise21_standingsThatAreAlikeByOneTextAreTwo() {
        // Drawn until taking two of them for one would have lost the way.
        HiddenDrawers x = desk("333333", "open a=0 and b=1 and c=1 and d=0 and e=0 and f=0 and tilt=1;when 0 tilt>0 and e=2;"
            + "when 4 tilt#0 and tilt=2;when 5 b#2;tilt 0 set 0 to 1;tilt 1 set 1 to 0;tilt 2 set 1 to 2;tilt 2 set 3 to 1;"
            + "with 2 to 2 set 0 to 0;");
        tell(x, "open a=0 and b=0 and c=0 and d=1 and e=0 and f=0 and tilt=1;when 0 b=1;when 1 b<0;when 2 b<2 and e#0;"
            + "when 4 c#0 and a+on>1;when 5 tilt#1 and c+on=1;with 4 to 0 set 3 to 0;with 5 to 0 set 2 to 2;");
        int[] acts = {5, 7, 7, 14, 6, 13, 3};
        due("how many", x.whatever(3, NONE), acts.length);
        for (int i = 0; i < acts.length; i++) due("act " + i, x.whatever(3, i), acts[i]);
        x.image();
        for (int text = 0; text < 2; text++) {
            x.back();
            x.by(text);
            act(x, acts);
            due("open by " + text, x.now(2), 1);
        }
    }

    static void promise21_noneIfItCanNotBeOpen() {
        HiddenDrawers x = desk("22", "open 1=2;");
        tell(x, "");
        due("not so", x.whatever(1, NONE), NONE);
        due("without open", x.whatever(2, NONE), NONE);
        due("both", x.whatever(3, 0), NONE);
    }

    static void promise21_2187StandingsOfOneTextAreNotTooMany() {
        HiddenDrawers x = desk("333333", ALL_AT_2);
        due("how many", x.whatever(1, NONE), 13);
        due("last", x.whatever(1, 12), 14);
        tell(x, "");
        due("none open", x.whatever(2, NONE), NONE);
    }

    static void promise21_3000StandingsNoneOpenIsNone() {
        // Each of three pairs moves one PART at a time (5 * 5 * 5), by the other a, b, c have two places (8); 3 tilts.
        HiddenDrawers x = desk("333333", "when0tilt=0and b=0;when1tilt=0and a=0;when2tilt=0and d=0;when3tilt=0and c=0;"
            + "when4tilt=0and f=0;when5tilt=0and e=0;");
        tell(x, "when0tilt=1and a+on<2;when1tilt=1and b+on<2;when2tilt=1and c+on<2;when3 1=2;when4 1=2;when5 1=2;");
        due("how many", x.whatever(3, NONE), NONE);
        due("first", x.whatever(3, 0), NONE);
    }

    static void promise21_3001StandingsNoneOpenIsSpent() {
        // Drawn until there were 3001; a standing taken for another one would make it NONE.
        HiddenDrawers x = desk("322233", "when 0 tilt=1 and a+on#2;when 1 tilt>1 and tilt#0;when 2 d>1 and e+on<2;when 3 e<2;"
            + "when 4 d#0;when 5 a>0 and e#0;tilt 0 set 5 to 1;tilt 0 set 4 to 1;with 1 to 2 set 3 to 2;tilt 0 set 2 to 1;"
            + "tilt 2 set 1 to 0;tilt 1 set 0 to 2;");
        tell(x, "when 0 a>1 and tilt#2;when 1 tilt<1;when 2 tilt#0;when 3 tilt>0 and b+on<1;when 4 b<1 and tilt<2;"
            + "when 5 b>2 and a>1;with 2 to 1 set 3 to 1;tilt 1 set 1 to 1;tilt 2 set 5 to 0;with 1 to 1 set 4 to 1;");
        due("how many", x.whatever(3, NONE), SPENT);
        due("first", x.whatever(3, 0), SPENT);
    }

    static void promise21_3003StandingsNoneOpenIsSpent() {
        // One of six PARTS moves (13); by the other what a, b, c, d count in threes stays below 77; 3 tilts.
        HiddenDrawers x = desk("333333", "when0tilt=0and b+c+d+e+f=0;when1tilt=0and a+c+d+e+f=0;when2tilt=0and a+b+d+e+f=0;"
            + "when3tilt=0and a+b+c+e+f=0;when4tilt=0and a+b+c+d+f=0;when5tilt=0and a+b+c+d+e=0;");
        tell(x, "when0tilt=1and a+3*b+9*c+27*d+on<77;when1tilt=1and a+3*b+9*c+27*d+3*on<77;when2tilt=1and a+3*b+9*c+27*d+9*on<77;"
            + "when3tilt=1and a+3*b+9*c+27*d+27*on<77;when4 1=2;when5 1=2;");
        due("how many", x.whatever(3, NONE), SPENT);
        due("first", x.whatever(3, 0), SPENT);
        due("far", x.whatever(3, Integer.MAX_VALUE), SPENT);
        due("below", x.whatever(3, -2), NONE);
        due("of one text", x.whatever(2, NONE), NONE);
    }

    static void promise21_the3000thStandingCanBeOpen() {
        for (int n = 2996; n <= 3000; n++) whateverTo(n);
    }

    static void promise21_the3001stStandingIsSpentEvenIfOpen() {
        for (int n = 3001; n <= 3005; n++) whateverTo(n);
    }

    private static void whateverTo(int n) {
        Found found = nthFound(n, true);
        String[] texts = {"", ""};
        for (int law = 0; law < 2; law++) {
            for (int part = 0; part < 6; part++) texts[law] += "when " + part + " tilt=" + law + ";";
            texts[law] += openAt(found, law);
        }
        HiddenDrawers x = desk("333333", texts[0]);
        due("the other text", tell(x, texts[1]), 1);
        due("open by both as the " + n + "th standing", x.whatever(3, NONE), n <= 3000 ? found.acts : SPENT);
        due("its first act", x.whatever(3, 0), n <= 3000 ? found.firstAct : SPENT);
        due("an act that isn't there", x.whatever(3, 99), n <= 3000 ? NONE : SPENT);
    }

    static void promise21_changesNothing() {
        changesNothing("how many", x -> x.whatever(1, NONE), 3);
        changesNothing("first", x -> x.whatever(1, 0), 3);
    }
}
