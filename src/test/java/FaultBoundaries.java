/** Promise 6: which FAULT a text has, and where. */
final class FaultBoundaries extends Boundaries {
    static void promise06_aheadOfAnyNone() {
        HiddenDrawers x = new HiddenDrawers();
        for (int what = -1; what <= 2; what++) due("fault " + what, x.fault(what), NONE);
        fill(x, "do 15;");
        due("fed alone", x.fault(0), NONE);
        due("its place", x.fault(1), NONE);
    }

    static void promise06_withoutAFault0AndNone() {
        HiddenDrawers x = new HiddenDrawers();
        tell(x, "do 1;");
        due("fault", x.fault(0), 0);
        due("place", x.fault(1), NONE);
    }

    static void promise06_othersAreNone() {
        HiddenDrawers x = busy();
        due("fault", x.fault(0), 2);
        due("place", x.fault(1), 3);
        due("2", x.fault(2), NONE);
        due("-1", x.fault(-1), NONE);
        for (int far : FAR) due("" + far, x.fault(far), NONE);
    }

    static void promise06_itIsOfTheLatestTextRead() {
        HiddenDrawers x = new HiddenDrawers();
        tell(x, "do 1;do 15;");
        due("place", x.fault(1), 8);
        tell(x, "x");
        due("fault of the later", x.fault(0), 1);
        due("place of the later", x.fault(1), 0);
        tell(x, "");
        due("none of the latest", x.fault(0), 0);
        due("no place", x.fault(1), NONE);
    }

    static void promise06_aTextThatWasRefusedAs4AreToldWasNotRead() {
        HiddenDrawers x = new HiddenDrawers();
        for (int i = 0; i < 4; i++) tell(x, "");
        tell(x, "do 15;");
        due("fault", x.fault(0), 0);
        due("place", x.fault(1), NONE);
    }

    static void promise06_backLeavesIt() {
        HiddenDrawers x = new HiddenDrawers();
        tell(x, "do 15;");
        x.back();
        due("fault", x.fault(0), 2);
        due("place", x.fault(1), 3);
        tell(x, "");
        x.image();
        tell(x, "x");
        x.back();
        due("fault then", x.fault(0), 1);
        due("place then", x.fault(1), 0);
    }

    static void promise06_fault1OfTheEndIsAtTheLength() {
        faulty("do", 1, 2);
        faulty("do 1", 1, 4);
        faulty("do 1 \n ", 1, 7);
        faulty("when 0 a=1", 1, 10);
        faulty("with 0 to 1 set 0 to 1", 1, 22);
        faulty("tilt 0 set 0 to 1  ", 1, 19);
        faulty("sound", 1, 5);
        faulty("sound 1+", 1, 8);
        faulty("sound (1", 1, 8);
        faulty("open 1<", 1, 7);
        faulty("open 1=1 and ", 1, 13);
        faulty("stops not", 1, 9);
    }

    /** Each byte between a and 1 in "open a.1;": a sign, a blank, a part of a word or a number, or none. */
    static void promise06_fault1OfEachByte() {
        for (int sign = 0; sign < 256; sign++) {
            String text = "open a" + (char) sign + "1;";
            boolean letter = sign >= 'a' && sign <= 'z' || sign >= 'A' && sign <= 'Z';
            if (sign == '<' || sign == '>' || sign == '=' || sign == '#') lawful(text);
            else if (sign == '+' || sign == '-' || sign == '*' || sign == '/') faulty(text, 1, 8);
            else if (sign == ' ' || sign == '\n') faulty(text, 1, 7);
            else if (sign == 't') faulty(text, 5, 5);
            else faulty(text, 1, letter ? 5 : 6);
        }
    }

    /** Each byte as the first TOKEN, and as the one behind a CLAUSE. */
    static void promise06_fault1OfEachByteAsAClause() {
        for (int sign = 0; sign < 256; sign++) {
            boolean blank = sign == ' ' || sign == '\n';
            if (blank) lawful("" + (char) sign);
            else faulty("" + (char) sign, 1, 0);
            if (blank) lawful("do 1;" + (char) sign);
            else faulty("do 1;" + (char) sign, 1, 5);
        }
    }

    static void promise06_fault1In300Tokens() {
        faulty(times(300, ";"), 1, 0);
        faulty(times(300, "!"), 1, 0);
        faulty("do 1;" + times(295, ";"), 1, 5);
        faulty("sound" + times(147, "1+") + "1", 1, 300);
    }

    static void promise06_fault1OfALoneLetter() {
        for (int letter = 'A'; letter <= 'z'; letter++) {
            boolean name = letter >= 'a' && letter <= 'f';
            if (name) lawful("sound " + (char) letter + ";");
            else faulty("sound " + (char) letter + ";", 1, 6);
        }
    }

    static void promise06_fault1OfAWordThatIsNone() {
        String[] words = {"when", "with", "tilt", "sound", "open", "stops", "do"};
        for (String word : words) {
            faulty(word + "s 0 a=1;", 1, 0);
            faulty(word.substring(0, word.length() - 1) + " 0 a=1;", 1, 0);
            faulty(word.toUpperCase() + " 0 a=1;", 1, 0);
            faulty("x" + word + " 0;", 1, 0);
        }
        for (String name : new String[] {"aa", "ons", "o", "tilts", "til", "parts", "ats", "to", "set", "when", "Tilt", "A", "F"}) {
            faulty("sound " + name + ";", 1, 6);
        }
    }

    static void promise06_fault1OfATokenThatCanNotStandThere() {
        faulty("when a=1;", 1, 5);
        faulty("when 0;", 1, 6);
        faulty("when 0 a;", 1, 8);
        faulty("with 0 1 set 0 to 0;", 1, 7);
        faulty("with 0 set 0 to 0;", 1, 7);
        faulty("with 0 to 0 to 0 to 0;", 1, 12);
        faulty("with 0 to 0 set 0 0;", 1, 18);
        faulty("with 0 to 0 set 0 to 0 0;", 1, 23);
        faulty("with 0 to 0 set 0 to a;", 1, 21);
        faulty("tilt 0 to 0;", 1, 7);
        faulty("tilt 0 set 0;", 1, 12);
        faulty("tilt set 0 to 0;", 1, 5);
        faulty("do 1 1;", 1, 5);
        faulty("do -1;", 1, 3);
        faulty("do (1);", 1, 3);
        faulty("do ;", 1, 3);
        faulty(";", 1, 0);
        faulty("do 1;;", 1, 5);
    }

    private static final String[] TOKENS = ("when with tilt sound open stops do to set or and not on part at a b c d e f g "
        + "<= >= < > = # + - * / ( ) ; 0").split(" ");

    /** The kind of the FAULT if it is at this TOKEN, put where the n-th stands; 0 if it can stand there. */
    private static int faultAt(String text, int n, String token) {
        String[] all = text.split(" ");
        all[n] = token;
        HiddenDrawers x = new HiddenDrawers();
        tell(x, String.join(" ", all));
        int place = 0;
        for (int i = 0; i < n; i++) place += all[i].length() + 1;
        due("no fault ahead of " + n + " in " + text, x.fault(1) == NONE || x.fault(1) >= place, true);
        return x.fault(1) == place ? x.fault(0) : 0;
    }

    /** At the n-th place of the text these can stand, of those each is FAULT 5, all others are FAULT 1. */
    private static void canStand(String text, int n, String these, String names) {
        for (String token : TOKENS) {
            boolean stands = (" " + these + " ").contains(" " + token + " ");
            boolean name = (" " + names + " ").contains(" " + token + " ");
            due(token + " as the token " + n + " of " + text, faultAt(text, n, token), stands ? 0 : name ? 5 : 1);
        }
    }

    static void promise06_fault1OfEachTokenAmongNumbers() {
        String[] clauses = {"with 0 to 0 set 0 to 0 ;", "tilt 0 set 0 to 0 ;", "do 0 ;"};
        for (String clause : clauses) {
            String[] all = clause.split(" ");
            for (int n = 1; n < all.length; n++) canStand(clause, n, all[n], "");
        }
        canStand("when 0 a = 1 ;", 1, "0", "");
    }

    static void promise06_fault1OfEachTokenAsAClause() {
        canStand("do 0 ;", 0, "when with tilt sound open stops do", "");
        canStand("do 0 ; do 0 ;", 3, "when with tilt sound open stops do", "");
    }

    static void promise06_fault1OfEachTokenInAnEither() {
        String ones = "a b c d e f tilt 0 ( -";
        String[] clauses = {"open a = 1 ;", "stops a = 1 ;"};
        for (String clause : clauses) {
            String names = clause.startsWith("open") ? "on part at" : "on part";
            String own = clause.startsWith("open") ? "" : " at";
            canStand(clause, 1, ones + " not" + own, names);
            canStand(clause, 2, "< <= > >= = # + - * /", "");
            canStand(clause, 3, ones + own, names);
            canStand(clause, 4, "; and or + - * /", "");
        }
        canStand("when 0 a = 1 ;", 2, ones + " not on", "part at");
        canStand("when 0 a = 1 ;", 4, ones + " on", "part at");
        canStand("open a = 1 and b = 2 ;", 5, ones + " not", "on part at");
        canStand("open a = 1 or b = 2 ;", 6, "< <= > >= = # + - * /", "");
        canStand("open not a = 1 ;", 2, ones + " not", "on part at");
        canStand("open ( a ) = 1 ;", 2, ones, "on part at");
        canStand("open ( a ) = 1 ;", 3, ") + - * /", "");
        canStand("open a = ( 1 ) ;", 5, ") + - * /", "");
        canStand("open - a = 1 ;", 2, ones, "on part at");
        canStand("open a + b = 1 ;", 3, ones, "on part at");
    }

    static void promise06_fault1OfEachTokenInASum() {
        String ones = "a b c d e f tilt on part 0 ( -";
        canStand("sound a ;", 1, ones, "at");
        canStand("sound a ;", 2, "; + - * /", "");
        canStand("sound ( a ) ;", 2, ones, "at");
        canStand("sound ( a ) ;", 3, ") + - * /", "");
        canStand("sound ( a ) ;", 4, "; + - * /", "");
        for (String sign : new String[] {"+", "-", "*", "/"}) canStand("sound a " + sign + " b ;", 3, ones, "at");
    }

    static void promise06_fault1InASum() {
        faulty("sound ;", 1, 6);
        faulty("sound ();", 1, 7);
        faulty("sound (1;", 1, 8);
        faulty("sound 1);", 1, 7);
        faulty("sound 1 1;", 1, 8);
        faulty("sound 1+;", 1, 8);
        faulty("sound +1;", 1, 6);
        faulty("sound 1**1;", 1, 8);
        faulty("sound (1)(1);", 1, 9);
        faulty("sound 1=1;", 1, 7);
        faulty("sound 1 or 1;", 1, 8);
        faulty("sound not 1;", 1, 6);
        faulty("sound (1=1);", 1, 8);
    }

    static void promise06_fault1InAnEither() {
        faulty("open ;", 1, 5);
        faulty("open 1;", 1, 6);
        faulty("open 1=1=1;", 1, 8);
        faulty("open 1=1 1=1;", 1, 9);
        faulty("open (1=1);", 1, 7);
        faulty("open (1=1 or 1=2);", 1, 7);
        faulty("open 1=1 or or 1=1;", 1, 12);
        faulty("open or 1=1;", 1, 5);
        faulty("open 1 or 1=1;", 1, 7);
        faulty("open 1=not 1;", 1, 7);
        faulty("open 1+not 1=1;", 1, 7);
        faulty("open -not 1=1;", 1, 6);
        faulty("open (not 1)=1;", 1, 6);
        faulty("open not;", 1, 8);
        faulty("open 1=1 not 1=1;", 1, 9);
        faulty("open 1=1);", 1, 8);
    }

    static void promise06_fault2OfAPartAbove5() {
        faulty("when 6 1=1;", 2, 5);
        faulty("with 6 to 0 set 0 to 0;", 2, 5);
        faulty("with 0 to 0 set 6 to 0;", 2, 16);
        faulty("tilt 0 set 6 to 0;", 2, 11);
    }

    static void promise06_fault2OfAPlaceAbove2() {
        faulty("with 0 to 3 set 0 to 0;", 2, 10);
        faulty("with 0 to 0 set 0 to 3;", 2, 21);
        faulty("tilt 0 set 0 to 3;", 2, 16);
    }

    static void promise06_fault2OfATiltAbove2() {
        faulty("tilt 3 set 0 to 0;", 2, 5);
        faulty("tilt 12 set 0 to 0;", 2, 5);
    }

    static void promise06_fault2OfAnActAbove14() {
        faulty("do 15;", 2, 3);
        faulty("do 015;", 2, 3);
        lawful("do 014;");
    }

    static void promise06_fault2OfANumberAbove9999() {
        faulty("sound 10000;", 2, 6);
        faulty("sound 1+010000;", 2, 8);
        faulty("open 1=99999;", 2, 7);
        faulty("do 10000;", 2, 3);
        lawful("sound 9999;");
    }

    static void promise06_fault2OfANumberThatWouldWrapAround() {
        for (String number : new String[] {"256", "65536", "4294967296", "4294967297", "18446744073709551616", "2147483648"}) {
            faulty("do " + number + ";", 2, 3);
            faulty("when " + number + " 1=1;", 2, 5);
        }
        faulty("sound 4294967296;", 2, 6);
        faulty("sound 18446744073709551617;", 2, 6);
        faulty("sound 1" + times(292, "0") + ";", 2, 6);
        faulty("sound " + times(293, "9") + ";", 2, 6);
    }

    static void promise06_fault3AtThe9thBracket() {
        faulty("sound " + times(9, "(") + "1" + times(9, ")") + ";", 3, 14);
        faulty("sound 1+1*" + times(9, "( "), 3, 26);
        faulty("sound (1)+((1))+" + times(9, "("), 3, 24);
        faulty("sound " + times(8, "(") + "1)+(1+(", 3, 20);
    }

    static void promise06_fault3AtThe9thMinus() {
        faulty("sound " + times(9, "-") + "1;", 3, 14);
        faulty("sound 1" + times(10, "-") + "1;", 3, 16);
        faulty("sound -1+" + times(9, "-"), 3, 17);
    }

    static void promise06_fault3AtThe9thNot() {
        faulty("open " + times(9, "not ") + "1=1;", 3, 37);
        faulty("open not 1=1 and " + times(9, "not "), 3, 49);
    }

    static void promise06_fault3AtThe9thOfAllTogether() {
        faulty("open not not not -(-(-(1", 3, 22);
        faulty("open " + times(8, "not ") + "-1=1;", 3, 37);
        faulty("open " + times(8, "not ") + "(1)=1;", 3, 37);
        faulty("open " + times(8, "not ") + "1=-1;", 3, 39);
        faulty("open not 1=" + times(8, "("), 3, 18);
        faulty("sound " + times(8, "(") + "-1", 3, 14);
        faulty("sound " + times(8, "-") + "(1", 3, 14);
        lawful("open not 1=" + times(7, "(") + "1" + times(7, ")") + ";");
    }

    static void promise06_fault4AtTheSecondSoundOpenStops() {
        faulty("sound 1;sound 1;", 4, 8);
        faulty("open 1=1;open 1=1;", 4, 9);
        faulty("stops 1=1;do 1;\nstops 1=1;", 4, 16);
        faulty("sound 1;open 1=1;stops 1=1;sound", 4, 27);
        lawful("sound 1;open 1=1;stops 1=1;");
    }

    static void promise06_fault4AtTheNumberOfTheSecondWhen() {
        for (int part = 0; part < 6; part++) faulty("when " + part + " 1=1;when " + part + " 1=1;", 4, 16);
        faulty("when 5 1=1;when 4 1=1;when 05 1=1;", 4, 27);
        faulty("when 0 1=1;when  0", 4, 17);
    }

    static void promise06_fault5OnIsInWhenAndSoundAlone() {
        lawful("when 0 on=1;sound on;");
        faulty("open on=1;", 5, 5);
        faulty("open 1=on;", 5, 7);
        faulty("stops at=1 or on=1;", 5, 14);
    }

    static void promise06_fault5PartIsInSoundAlone() {
        lawful("sound part;");
        faulty("when 0 part=1;", 5, 7);
        faulty("open part=1;", 5, 5);
        faulty("stops part=1;", 5, 6);
    }

    static void promise06_fault5AtIsInStopsAlone() {
        lawful("stops at=1;");
        faulty("when 0 at=1;", 5, 7);
        faulty("sound at;", 5, 6);
        faulty("open at=1;", 5, 5);
    }

    static void promise06_fault5IsOfEachWhen() {
        for (int part = 0; part < 6; part++) {
            lawful("when " + part + " on=1;");
            faulty("when " + part + " part=1;", 5, 7);
            faulty("when " + part + " at=1;", 5, 7);
        }
    }

    static void promise06_fault6AtTheFirstTokenOfThe25thClause() {
        faulty(times(25, "do 1;"), 6, 120);
        faulty(times(24, "do 1;") + " \n when", 6, 123);
        faulty(times(24, "do 1;") + "with", 6, 120);
        faulty(times(24, "do 1;") + "tilt 9", 6, 120);
        faulty(times(24, "do 1;") + "sound", 6, 120);
        faulty(times(24, "do 1;") + "open", 6, 120);
        faulty(times(24, "do 1;") + "stops", 6, 120);
        faulty(times(30, "do 1;"), 6, 120);
        lawful(times(24, "do 1;") + " \n ");
    }

    static void promise06_ofOneTokenTheLeastFault() {
        faulty("10000", 1, 0);
        faulty("sound 1 10000;", 1, 8);
        faulty("do 1 99999", 1, 5);
        faulty("open 1=1 on", 1, 9);
        faulty("sound 1 at;", 1, 8);
        faulty("sound " + times(8, "(") + "not 1", 1, 14);
        faulty("sound " + times(8, "(") + "1(", 1, 15);
        faulty("sound 1;" + times(23, "do 1;") + "sound 1;", 4, 123);
        faulty("open 1=1;" + times(23, "do 1;") + "open", 4, 124);
        faulty("stops 1=1;" + times(23, "do 1;") + "stops", 4, 125);
        faulty("when 0 1=1;" + times(23, "do 1;") + "when 0", 6, 126);
        faulty(times(24, "do 1;") + "do1", 6, 120);
        faulty(times(24, "do 1;") + ";", 1, 120);
        faulty(times(24, "do 1;") + "on", 1, 120);
        faulty(times(24, "do 1;") + "10000", 1, 120);
        faulty("when 0 1=1;when 10000", 2, 16);
    }

    static void promise06_theFirstAsTokensAreComeTo() {
        faulty("open at=1", 5, 5);
        faulty("do 15 !", 2, 3);
        faulty("do ! 15", 1, 3);
        faulty("sound at+10000;", 5, 6);
        faulty("sound 10000+at;", 2, 6);
        faulty("sound 1;sound at;", 4, 8);
        faulty("open on=1;open", 5, 5);
        faulty("sound " + times(9, "(") + "at", 3, 14);
        faulty("sound at" + times(9, "("), 5, 6);
        faulty("with 6 to 3 set 6 to 3;", 2, 5);
        faulty("with 0 to 3 at", 2, 10);
    }
}
