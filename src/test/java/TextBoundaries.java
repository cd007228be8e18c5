/** Promises 3 to 5: the tape, and what is a TEXT and what it says. */
final class TextBoundaries extends Boundaries {
    static void promise03_theHighestByteOfAComesFirst() {
        HiddenDrawers x = desk("2", "");
        due("feed", x.feed(0x646F2031, 0x3B646F31, 0x343B646F, 0x31333B64, 0x6F31323B), 20);
        due("do 1;do14;do13;do12;", x.text(), 1);
        due("played", x.played(1), NONE);
        due("all four", x.about(3), 4);
    }

    static void promise03_aByteAbove127IsAByte() {
        HiddenDrawers x = new HiddenDrawers();
        x.feed(0x646F2031, 0x3BE90000, 0, 0, 0);
        due("text", x.text(), NONE);
        due("at it", x.fault(1), 5);
        due("20 of -1", x.feed(-1, -1, -1, -1, -1), 20);
        x.text();
        due("at the first", x.fault(1), 0);
        due("20 of the lowest", x.feed(Integer.MIN_VALUE, 0, 0, 0, 0), 20);
        x.text();
        due("128 is none", x.fault(1), 0);
    }

    static void promise03_theyComeBehindTheTape() {
        HiddenDrawers x = desk("2", "");
        fill(x, "do 1;do 13;do 14;do 1");
        x.end(20);
        due("feed", x.feed(0x31323B64, 0x6F20303B, 0x20202020, 0x20202020, 0x20202020), 40);
        due("..do 12;do 0;", x.text(), 1);
        due("played", x.played(1), NONE);
        due("all five", x.about(3), 5);
        fill(x, "do");
        due("behind two", x.feed(0, 0, 0, 0, 0), 22);
    }

    static void promise03_300BytesAreTaken() {
        HiddenDrawers x = new HiddenDrawers();
        for (int n = 20; n <= 300; n += 20) due("feed", x.feed(0, 0, 0, 0, 0), n);
        due("bytes", x.about(6), 300);
        x.end(280);
        due("behind 280", x.feed(0, 0, 0, 0, 0), 300);
    }

    static void promise03_moreThan300AreRefusedAndNoneCome() {
        changesNothing("behind 300", Boundaries::full, x -> x.feed(0x3B3B3B3B, 0, 0, 0, 0), NONE);
        for (int length = 281; length < 300; length += 3) {
            HiddenDrawers x = new HiddenDrawers();
            fill(x, times(length, " "));
            due("behind " + length, x.feed(-1, -1, -1, -1, -1), NONE);
            due("bytes", x.about(6), length);
            due("blanks alone", x.text(), 0);
        }
    }

    static void promise04_allOfTheTapeCanStay() {
        HiddenDrawers x = new HiddenDrawers();
        due("0 of none", x.end(0), 0);
        x.feed(0, 0, 0, 0, 0);
        due("20 of 20", x.end(20), 20);
        due("bytes", x.about(6), 20);
        due("300 of 300", full().end(300), 300);
    }

    static void promise04_moreThanItHasIsRefused() {
        due("1 of none", new HiddenDrawers().end(1), NONE);
        changesNothing("20 of 19", x -> x.end(20), NONE);
        changesNothing("300 of 19", x -> x.end(300), NONE);
        changesNothing("301 of 300", Boundaries::full, x -> x.end(301), NONE);
        for (int far : FAR) if (far > 0) changesNothing("" + far, x -> x.end(far), NONE);
    }

    static void promise04_below0IsRefused() {
        due("-1 of none", new HiddenDrawers().end(-1), NONE);
        changesNothing("-1", x -> x.end(-1), NONE);
        for (int far : FAR) if (far < 0) changesNothing("" + far, x -> x.end(far), NONE);
    }

    static void promise04_theFirstBytesStay() {
        HiddenDrawers x = desk("2", "");
        fill(x, "do 1;do 14;");
        due("5", x.end(5), 5);
        due("do 1;", x.text(), 1);
        due("played", x.played(1), NONE);
        due("one act", x.about(3), 1);
    }

    static void promise04_whatWasCutOffIsGone() {
        HiddenDrawers x = desk("2", "");
        fill(x, "do 1;do 14;do 13;do 12;");
        x.end(5);
        x.feed(0x20202020, 0x20202020, 0x20202020, 0x20202020, 0x20202020);
        x.end(25);
        x.text();
        due("played", x.played(1), NONE);
        due("one act", x.about(3), 1);
        fill(x, "do 1;");
        due("0", x.end(0), 0);
        due("an empty tape", x.text(), 2);
        due("has no do", x.played(2), NONE);
    }

    static void promise04_whatWasCutOffIsNotReadOn() {
        cutOff("dox", 2, 1, 2);
        cutOff("do 15", 4, 1, 4);
        cutOff("open 1<=1;", 7, 1, 7);
        cutOff("do 1;!", 5, 0, NONE);
        cutOff("do 1;do", 5, 0, NONE);
    }

    private static void cutOff(String tape, int n, int fault, int place) {
        HiddenDrawers x = new HiddenDrawers();
        fill(x, tape);
        x.end(n);
        x.text();
        due("fault of " + tape + " to " + n, x.fault(0), fault);
        due("its place", x.fault(1), place);
    }

    static void promise05_theTapeIsEmptyThen() {
        HiddenDrawers x = new HiddenDrawers();
        fill(x, "do 1;");
        due("text", x.text(), 0);
        due("bytes", x.about(6), 0);
        due("an empty text behind it", x.text(), 1);
    }

    static void promise05_withAFaultTheTapeIsEmptyThenToo() {
        HiddenDrawers x = new HiddenDrawers();
        fill(x, "do 15;");
        due("text", x.text(), NONE);
        due("bytes", x.about(6), 0);
        due("an empty text behind it", x.text(), 0);
    }

    static void promise05_aFaultyTextTakesNoNumber() {
        HiddenDrawers x = new HiddenDrawers();
        for (int i = 0; i < 4; i++) {
            due("faulty", tell(x, "do 15;"), NONE);
            due("told", tell(x, "do 1;"), i);
            due("texts", x.about(1), i + 1);
        }
    }

    static void promise05_theFifthIsRefusedAndTheTapeStays() {
        changesNothing("a 5th", () -> withFour("do 15;"), x -> x.text(), NONE);
        HiddenDrawers x = withFour("do 1;");
        due("5th", x.text(), NONE);
        due("bytes", x.about(6), 5);
        x.back();
        due("the tape is read when there is room", x.text(), 2);
        due("its do", x.played(2), NONE);
        due("was done", x.about(3), 1);
    }

    private static HiddenDrawers withFour(String tape) {
        HiddenDrawers x = desk("2", "");
        tell(x, "");
        x.image();
        tell(x, "");
        tell(x, "");
        fill(x, tape);
        return x;
    }

    static void promise05_anEmptyTapeIsAText() {
        HiddenDrawers x = new HiddenDrawers();
        due("text", x.text(), 0);
        due("fault", x.fault(0), 0);
        due("place", x.fault(1), NONE);
        lawful("");
    }

    static void promise05_blanksAloneAreAText() {
        lawful(" ");
        lawful("\n");
        lawful(times(150, " \n"));
    }

    static void promise05_blanksAreNeededNowhereButBetweenWordsOrNumbers() {
        lawful("when0a=1;with0to1set2to0;tilt0set1to0;do14;sound1;open1=1or1=2and3=4;stops1=1;");
        lawful("open not-1<1;");
        lawful("open\n\n1\n=\n \n1\n;\n");
        faulty("do1 2;", 1, 4);
        faulty("soundpart;", 1, 0);
    }

    static void promise05_300BytesAreReadToTheLast() {
        lawful(times(295, " ") + "do 1;");
        lawful("sound 1" + times(146, "+1") + ";");
        faulty(times(296, " ") + "do 1", 1, 300);
        faulty("sound 1" + times(146, "+1") + "+", 1, 300);
        faulty(times(299, " ") + "!", 1, 299);
        HiddenDrawers x = desk("2", "sound 0-1" + times(145, "-0") + ";");
        due("below 0", x.act(1), 0);
        x = desk("2", "sound 0+" + times(145, "0+") + "7;");
        due("the last counts", x.act(1), 7);
    }

    static void promise05_24ClausesAreTaken() {
        lawful(times(24, "do 1;"));
        lawful("sound 1;open 1=1;stops 1=1;when 0 1=1;when 1 1=1;when 2 1=1;when 3 1=1;when 4 1=1;when 5 1=1;"
            + times(8, "do 1;") + times(7, "tilt0set0to0;"));
    }

    static void promise05_eachPartCanHaveItsWhen() {
        lawful("when 0 1=1;when 1 1=1;when 2 1=1;when 3 1=1;when 4 1=1;when 5 1=1;");
        lawful("when 5 1=1;when 4 1=1;when 0 1=1;");
    }

    static void promise05_withTiltAndDoCanBeOftenAlike() {
        lawful(times(8, "with 0 to 1 set 2 to 0;") + times(5, "tilt 0 set 1 to 0;") + times(4, "do 1;"));
    }

    static void promise05_theHighestNumbersAreTaken() {
        lawful("sound 9999;");
        lawful("sound 00009999+0+00000;");
        lawful("sound " + times(280, "0") + "9999;");
        lawful("when 5 1=1;");
        lawful("with 5 to 2 set 5 to 2;");
        lawful("tilt 2 set 5 to 2;");
        lawful("do 14;");
        comesTo("9999-9998", 1);
    }

    static void promise05_theLongestSignIsTaken() {
        holds("1<=1", 1);
        holds("2>=1", 1);
        holds("1<=0", 0);
        faulty("open 1< =1;", 1, 8);
        faulty("open 1=<1;", 1, 7);
        faulty("open 1<>1;", 1, 7);
        faulty("open 1==1;", 1, 7);
        faulty("open 1<=<1;", 1, 8);
        faulty("open 1<==1;", 1, 8);
    }

    static void promise05_allComparisonsAtTheirEdges() {
        String[] signs = {"<", "<=", ">", ">=", "=", "#"};
        int[][] due = {{1, 0, 0}, {1, 1, 0}, {0, 0, 1}, {0, 1, 1}, {0, 1, 0}, {1, 0, 1}};
        for (int sign = 0; sign < signs.length; sign++) {
            for (int left = 4; left <= 6; left++) holds(left + signs[sign] + 5, due[sign][left - 4]);
        }
    }

    static void promise05_eachComparisonInNotAndOr() {
        for (String so : new String[] {"1<2", "1<=2", "2<=2", "2>1", "2>=1", "2>=2", "2=2", "1#2"}) {
            holds("not " + so, 0);
            holds("not not " + so, 1);
            for (String other : new String[] {"1<2", "2>=2", "3#4", "not 1=2"}) {
                holds(so + " and " + other, 1);
                holds(other + " and " + so, 1);
                holds(so + " or " + other, 1);
                holds("not " + so + " or not " + so, 0);
            }
        }
    }

    static void promise05_andBindsMoreThanOr() {
        holds("1=1 or 1=1 and 1=2", 1);
        holds("1=2 and 1=1 or 1=1", 1);
        holds("1=2 or 1=1 and 1=1", 1);
        holds("1=2 and 1=2 or 1=2", 0);
        holds("1=1 and 1=2 or 1=2 and 1=1", 0);
    }

    static void promise05_notIsOfItsAskAlone() {
        holds("not 1=2 and 1=2", 0);
        holds("not 1=1 or 1=1", 1);
        holds("1=1 and not 1=2", 1);
        holds("not not not 1=2", 1);
        holds("not 1+1=2", 0);
    }

    static void promise05_sumsAndProductsGoFromTheLeft() {
        comesTo("9-4-3", 2);
        comesTo("9-4+3", 8);
        comesTo("2-3*4", -10);
        comesTo("9/2*2", 8);
        comesTo("8/4/2", 1);
        comesTo("9*3/2", 13);
        comesTo("2*(9-4)-(3-1)", 8);
    }

    static void promise05_minusOfAOneBindsMost() {
        comesTo("-2*3", -6);
        comesTo("-2+3", 1);
        comesTo("3--2", 5);
        comesTo("3*-2", -6);
        comesTo("--2", 2);
        comesTo("-(2-5)", 3);
        comesTo("7/-2*2", -6);
    }

    static void promise05_divisionCutsTowards0() {
        comesTo("7/2", 3);
        comesTo("-7/2", -3);
        comesTo("7/-2", -3);
        comesTo("-7/-2", 3);
        comesTo("1/2", 0);
        comesTo("-1/2", 0);
    }

    static void promise05_divisionBy0Is0() {
        comesTo("5/0", 0);
        comesTo("-5/0", 0);
        comesTo("0/0", 0);
        comesTo("5/(3-3)+4", 4);
        comesTo("9999*9999/a", 0);
    }

    static void promise05_1000000IsTheMost() {
        comesTo("1000*1000", 1000000);
        comesTo("1000*1000-1", 999999);
        comesTo("1000*1000+1", 1000000);
        comesTo("9999*9999", 1000000);
        comesTo("9999*100+100", 1000000);
        comesTo("9999*100+101", 1000000);
        comesTo("9999*100+99", 999999);
    }

    static void promise05_minus1000000IsTheLeast() {
        comesTo("-1000*1000", -1000000);
        comesTo("-1000*1000+1", -999999);
        comesTo("-1000*1000-1", -1000000);
        comesTo("-9999*9999", -1000000);
        comesTo("9999*-9999", -1000000);
        comesTo("0-9999*100-101", -1000000);
        comesTo("0-9999*100-99", -999999);
    }

    static void promise05_theLimitHoldsAtEachStep() {
        comesTo("9999*9999/9999", 100);
        comesTo("1000*1000+5-5", 999995);
        comesTo("0-1000*1000-5+5", -999995);
        comesTo("9999*9999*9999*9999/1000/1000", 1);
        comesTo("9999*9999-9999*9999", 0);
        comesTo("-(9999*9999)-1", -1000000);
        comesTo("(9999*9999)*(9999*9999)-1", 999999);
        comesTo("(9999*9999)*-(9999*9999)+1", -999999);
        comesTo("0-(0-9999*9999)-(0-9999*9999)-1", 999999);
    }

    static void promise05_aPartThatIsNotToldIs0InASum() {
        HiddenDrawers x = desk("2", "open b+c+d+e+f=0 and a=1;");
        act(x, 1);
        due("0 without", x.now(2), 1);
        due("none at all", desk("", "open a+b+c+d+e+f=0;").now(2), 1);
    }

    static void promise05_eachLetterIsItsPart() {
        for (int part = 0; part < 6; part++) {
            HiddenDrawers x = desk("333333", "open " + (char) ('a' + part) + "=2;");
            for (int other = 0; other < 6; other++) {
                act(x, 2 * other + 1, 2 * other + 1);
                due("part " + other, x.now(2), other == part ? 1 : 0);
                act(x, 2 * other, 2 * other);
            }
        }
    }

    static void promise05_tiltIsANameInAll() {
        lawful("when 0 tilt=1;sound tilt;open tilt=1;stops tilt=1;");
        HiddenDrawers x = desk("2", "when 0 tilt=1;sound 3+tilt;open tilt=2;stops tilt=1;");
        due("when", x.can(1), false);
        due("sound", x.act(14), 5);
        due("open", x.now(2), 1);
        due("rolled", x.now(1), 9);
        act(x, 13);
        due("stops", x.now(1), 9);
        due("when then", x.can(1), true);
    }

    static void promise05_8NestedAreTaken() {
        lawful("sound " + times(8, "(") + "1" + times(8, ")") + ";");
        lawful("sound " + times(8, "-") + "1;");
        lawful("open " + times(8, "not ") + "1=1;");
        lawful("open not not -(-(((1))))=1;");
        lawful("sound " + times(4, "-(") + "1" + times(4, ")") + ";");
        holds(times(8, "not ") + "1=1", 1);
        comesTo(times(8, "-") + "3", 3);
        comesTo(times(7, "-") + "3", -3);
        comesTo(times(8, "(1+") + "1" + times(8, ")"), 9);
        comesTo("1+1*(1+1*(1+1*(1+1*(1+1*(1+1*(1+1*(1+1*2)))))))", 10);
    }

    static void promise05_nestedBesideOneAnotherDoNotAdd() {
        String deep = times(8, "(") + "1" + times(8, ")");
        lawful("sound " + deep + "+" + deep + "*" + deep + ";");
        lawful("sound " + times(8, "-") + "1" + times(5, "-" + times(8, "-") + "1") + ";");
        lawful("open " + times(8, "not ") + "1=1 and " + times(8, "not ") + "1=1 or " + times(8, "not ") + "1=1;");
        lawful("open " + deep + "=" + deep + ";");
        lawful("sound (1)+(1)+(1)+(1)+(1)+(1)+(1)+(1)+(1)+(1);");
        lawful("sound 1-1-1-1-1-1-1-1-1-1-1;");
        lawful("sound -1--1*-1/-1+-1--1*-1/-1+-1--1;");
        lawful("sound " + deep + ";open " + deep + "=1;stops " + deep + "=1;when 0 " + times(8, "-") + "1=1;");
    }

    static void promise05_whatAFaultyTextLeftOpenIsOpenNoMore() {
        HiddenDrawers x = new HiddenDrawers();
        x.part(2);
        String[] faulty = {"sound ((((((((", "open not not not not not not not not", "sound --------", "open 1=1 or 1+2*(3-", "stops -((1=",
            "sound -", "open not"};
        for (String one : faulty) {
            due(one, tell(x, one), NONE);
            due("behind " + one, tell(x, "open (((((((1)))))))=-1*-1 and " + times(8, "not ") + "1=1;sound --------2*3+4;"), 0);
            x.by(0);
            due("open", x.now(2), 1);
            due("sound", x.act(13), 9);
            x.back();
            x.part(2);
        }
    }

    static void promise05_longFaultyTextsLeaveRoom() {
        HiddenDrawers x = new HiddenDrawers();
        for (int i = 0; i < 5; i++) due("faulty", tell(x, "sound 1" + times(146, "+1") + "!"), NONE);
        due("text", tell(x, "sound 7" + times(146, "-0") + ";"), 0);
        x.by(0);
        due("heard", x.act(13), 7);
    }

    static void promise05_fourLongTextsAreKept() {
        HiddenDrawers x = new HiddenDrawers();
        for (int i = 0; i < 4; i++) due("text", tell(x, "sound 0" + times(145, "+0") + "+" + (i + 1) + ";"), i);
        for (int i = 0; i < 4; i++) {
            x.by(i);
            due("heard", x.act(i % 2 == 0 ? 13 : 12), i + 1);
        }
    }

    static void promise05_ofAFaultyTextNothingStays() {
        HiddenDrawers x = new HiddenDrawers();
        x.part(2);
        x.part(2);
        tell(x, "when 0 1=2;with 1 to 1 set 0 to 1;tilt 1 set 0 to 1;do 3;sound 5;open 1=1;stops 1=1;do 15;");
        due("text", tell(x, "do 1;"), 0);
        x.by(0);
        due("when", x.can(1), true);
        due("with and sound", x.act(3), 1);
        due("tilt", x.act(13), 0);
        due("open", x.now(2), 0);
        act(x, 14);
        due("stops", x.now(1), 9);
        due("do", x.played(0), NONE);
        due("one do", x.about(3), 4);
    }
}
