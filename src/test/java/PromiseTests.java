/** Each promise of the document by plain examples, with its edges and with wrong inputs. */
public final class PromiseTests extends Checks {
    private static void promise1() {
        HiddenDrawers x = new HiddenDrawers();
        for (int what = 0; what <= 6; what++) due("new about " + what, x.about(what), what == 2 ? NONE : 0);
        for (int what = 0; what <= 2; what++) due("new now " + what, x.now(what), 0);
        due("new fewest", x.fewest(NONE), NONE);
        due("new forever", x.forever(), 1 << 13 | 1 << 14);
        x.part(2);
        x.hollow(3);
        tell(x, "");
        x.by(0);
        x.act(1);
        x.tried(0, 0);
        due("back to the new one", x.back(), 0);
        for (int what = 0; what <= 6; what++) due("back about " + what, x.about(what), what == 2 ? NONE : 0);
    }

    private static void promise2() {
        HiddenDrawers x = new HiddenDrawers();
        due("part(1)", x.part(1), NONE);
        due("part(4)", x.part(4), NONE);
        due("part(-1)", x.part(-1), NONE);
        for (int i = 0; i < 6; i++) due("part " + i, x.part(2 + i % 2), i);
        due("7th part", x.part(2), NONE);
        due("at first 0", x.place(5), 0);
        due("its places", x.about(15), 3);
    }

    private static void promise3() {
        HiddenDrawers x = new HiddenDrawers();
        int bytes = 'd' << 24 | 'o' << 16 | ' ' << 8 | '9';
        due("feed", x.feed(bytes, 0x3B000000 | ' ' << 16 | ' ' << 8 | ' ', 0x20202020, 0x20202020, 0x20202020), 20);
        due("highest byte first", x.text(), 0);
        for (int i = 1; i <= 15; i++) due("feed " + i, x.feed(-1, -1, -1, -1, -1), 20 * i);
        due("16th feed", x.feed(0, 0, 0, 0, 0), NONE);
        due("none came", x.about(6), 300);
        x.end(281);
        due("301 would be", x.feed(0, 0, 0, 0, 0), NONE);
        x.end(280);
        due("300 are", x.feed(0, 0, 0, 0, 0), 300);
    }

    private static void promise4() {
        HiddenDrawers x = new HiddenDrawers();
        due("end(1) of none", x.end(1), NONE);
        due("end(0) of none", x.end(0), 0);
        x.feed(0, 0, 0, 0, 0);
        due("end(21)", x.end(21), NONE);
        due("end(-1)", x.end(-1), NONE);
        due("nothing is done", x.about(6), 20);
        due("end(20)", x.end(20), 20);
        due("end(7)", x.end(7), 7);
        due("it has 7", x.about(6), 7);
    }

    private static void promise5() {
        HiddenDrawers x = new HiddenDrawers();
        for (int i = 0; i < 3; i++) due("text " + i, tell(x, "do " + i + ";"), i);
        due("the tape is empty then", x.about(6), 0);
        due("a faulty text", tell(x, "do;"), NONE);
        due("behind a fault, too", x.about(6), 0);
        due("4th", tell(x, ""), 3);
        fill(x, "do;");
        due("5th", x.text(), NONE);
        due("the tape stays", x.about(6), 3);
        due("and wasn't read", x.fault(0), 0);
        grammar();
        values();
    }

    private static void grammar() {
        lawful("");
        lawful(" \n ");
        lawful("when 0 a=1 or b=1 and not not c#2;when 5 on<=tilt;");
        lawful("with 5 to 2 set 0 to 0;tilt 2 set 5 to 2;do 14;do 0;");
        lawful("sound part*on/(a+-b)-tilt;open f>=9999;stops at<a;");
        lawful("when0a=00001;do013;open\na\n<\n1;");
        lawful(times(24, "do 1;"));
        lawful("sound " + times(8, "(") + "1" + times(8, ")") + "*" + times(8, "-") + "1;");
        lawful("open " + times(8, "not ") + "a=1 and " + times(8, "not ") + "a=1;");
        lawful("open not((((((( 1)))))))=-------1;");
        lawful("open a=1 and b=1" + times(37, " or a<b") + ";");
        HiddenDrawers x = new HiddenDrawers();
        x.part(2);
        x.part(2);
        tell(x, "when 0 1=2;with 1 to 1 set 0 to 1;tilt 1 set 0 to 1;do 3;open 1=1;stops 1=1;sound not");
        tell(x, "sound 5*-((((((((");
        due("a text behind faulty ones", tell(x, "do 1;when 1 -((((((1))))))*1=-1;"), 0);
        x.by(0);
        due("has nothing of them: when", x.act(1), 1);
        x.act(0);
        due("with, sound", x.act(3), 1);
        due("tilt", x.act(13), 0);
        due("stops", x.act(14) + x.now(1), 9);
        due("open", x.now(2), 0);
        due("do", x.played(0), NONE);
        due("one step of it", x.about(3), 6);
    }

    private static void values() {
        comesTo("7-2-1", 4);
        comesTo("2+3*4", 14);
        comesTo("(2+3)*4", 20);
        comesTo("2*(3+4)", 14);
        comesTo("1+2*(3+4*(5-1))-(2-3)", 40);
        comesTo("-(2+3)*(1+1)", -10);
        comesTo("7/2*2", 6);
        comesTo("-7/2", -3);
        comesTo("7/-2", -3);
        comesTo("5/0", 0);
        comesTo("- -3", 3);
        comesTo("2*-3", -6);
        comesTo("2--3", 5);
        comesTo("-2*3+10", 4);
        comesTo("9999*9999", 1000000);
        comesTo("-9999*9999", -1000000);
        comesTo("9999*9999*9999/1000", 1000);
        comesTo("9999*9999+9-9", 999991);
        comesTo("0-9999*9999-9+9", -999991);
        comesTo("9999*9999*-9999", -1000000);
        comesTo("1000*1000-1", 999999);
        holds("1=1 or 1=2 and 1=2", 1);
        holds("1=2 and 1=2 or 1=1", 1);
        holds("not 1=2 and 1=2", 0);
        holds("not 1=1 or 1=1", 1);
        holds("not not 1=1", 1);
        holds("1<1", 0);
        holds("1<=1", 1);
        holds("1<=2", 1);
        holds("2<=1", 0);
        holds("2>=1", 1);
        holds("1>=2", 0);
        holds("not 1=1", 0);
        holds("not 1=2", 1);
        holds("1>1", 0);
        holds("1>=1", 1);
        holds("1#1", 0);
        holds("1#2", 1);
        holds("-1<0", 1);
        holds("f=0", 1);
    }

    private static void promise6() {
        HiddenDrawers x = new HiddenDrawers();
        due("ahead of any 0", x.fault(0), NONE);
        due("ahead of any 1", x.fault(1), NONE);
        tell(x, "do 99;");
        due("its fault", x.fault(0), 2);
        due("others", x.fault(2), NONE);
        due("others below", x.fault(-1), NONE);
        x.image();
        tell(x, "");
        due("without", x.fault(0), 0);
        tell(x, "x");
        x.back();
        due("an image doesn't hold it", x.fault(0), 1);
        cannotStand();
        otherFaults();
    }

    private static void cannotStand() {
        faulty(";", 1, 0);
        faulty("do 1", 1, 4);
        faulty("do 1 \n", 1, 6);
        faulty("do 1;!", 1, 5);
        faulty("do 1;\t", 1, 5);
        faulty("do -1;", 1, 3);
        faulty("Do 1;", 1, 0);
        faulty("dodo 1;", 1, 0);
        faulty("open a;", 1, 6);
        faulty("open (a=1);", 1, 7);
        faulty("open a=1=1;", 1, 8);
        faulty("open a< =1;", 1, 8);
        faulty("open a=not 1;", 1, 7);
        faulty("open 1+not a=1;", 1, 7);
        faulty("open a=1 or;", 1, 11);
        faulty("open g=1;", 1, 5);
        faulty("open aa=1;", 1, 5);
        faulty("open az=1;", 1, 5);
        faulty("open aA=1;", 1, 5);
        faulty("open aZ=1;", 1, 5);
        faulty("open ` =1;", 1, 5);
        faulty("open a{=1;", 1, 6);
        faulty("open a@=1;", 1, 6);
        faulty("open a[=1;", 1, 6);
        faulty("open set=1;", 1, 5);
        faulty("open a=1)", 1, 8);
        faulty("sound (1;", 1, 8);
        faulty("sound 1 2;", 1, 8);
        faulty("sound 1 and 2;", 1, 8);
        faulty("sound 1=2;", 1, 7);
        faulty("sound not 1;", 1, 6);
        faulty("sound ;", 1, 6);
        faulty("with 1 2;", 1, 7);
        faulty("tilt 1 to 2;", 1, 7);
        faulty("when a=1;", 1, 5);
        faulty("on 1;", 1, 0);
        faulty("a;", 1, 0);
        faulty("do 99999 do", 2, 3);
        faulty("99999", 1, 0);
    }

    private static void otherFaults() {
        faulty("when 6 a=1;", 2, 5);
        faulty("with 0 to 3 set 0 to 0;", 2, 10);
        faulty("with 6 to 0 set 0 to 0;", 2, 5);
        faulty("with 0 to 0 set 6 to 0;", 2, 16);
        faulty("with 0 to 0 set 0 to 3;", 2, 21);
        faulty("tilt 3 set 0 to 0;", 2, 5);
        faulty("tilt 0 set 6 to 0;", 2, 11);
        faulty("tilt 0 set 0 to 3;", 2, 16);
        faulty("do 15;", 2, 3);
        faulty("sound 10000;", 2, 6);
        faulty("sound 4294967296;", 2, 6);
        faulty("sound 18446744073709551616;", 2, 6);
        faulty("sound " + times(9, "("), 3, 14);
        faulty("sound 1+1*" + times(9, "("), 3, 18);
        faulty("sound -1+" + times(9, "("), 3, 17);
        faulty("sound (1)+" + times(9, "("), 3, 18);
        faulty("sound " + times(9, "-") + "1;", 3, 14);
        faulty("open " + times(9, "not ") + "a=1;", 3, 37);
        faulty("open not -((((((( 1", 3, 16);
        faulty("open not not a=((((((-(1", 3, 21);
        faulty("sound 1;sound 1;", 4, 8);
        faulty("open a=1;open", 4, 9);
        faulty("stops a=1;do 1;stops", 4, 15);
        faulty("when 2 a=1;when 02 a=1;", 4, 16);
        faulty("open on=1;", 5, 5);
        faulty("open a=part;", 5, 7);
        faulty("open at=1;", 5, 5);
        faulty("when 0 part=1;", 5, 7);
        faulty("when 0 at=1;", 5, 7);
        faulty("sound at;", 5, 6);
        faulty("stops on=1;", 5, 6);
        faulty("stops part=1;", 5, 6);
        faulty(times(24, "do 1;") + "do 1;", 6, 120);
        faulty(times(24, "do 1;") + " when", 6, 121);
        faulty(times(24, "do 1;") + "to", 1, 120);
        faulty("sound 1;" + times(23, "do 1;") + "sound", 4, 123);
    }

    private static void promise7() {
        HiddenDrawers x = new HiddenDrawers();
        due("by(0) of none", x.by(0), false);
        due("by(NONE)", x.by(NONE), true);
        tell(x, "");
        tell(x, "open 1=1;");
        due("by(2)", x.by(2), false);
        due("by(-2)", x.by(-2), false);
        due("by(1)", x.by(1), true);
        due("it rules", x.now(2), 1);
        due("by(4)", x.by(4), false);
        due("nothing is done", x.about(2), 1);
        due("by(NONE) again", x.by(NONE), true);
        due("none rules", x.now(2), 0);
    }

    private static void promise8() {
        HiddenDrawers x = desk("23", "when 0 b=1 and on=1;when 1 tilt<2;");
        due("0 can't go back", x.can(0), false);
        due("0 can't go on yet", x.can(1), false);
        due("1 can go on", x.can(3), true);
        due("no part 2", x.can(5), false);
        due("is level", x.can(12), false);
        due("left", x.can(13), true);
        due("others", x.can(15), false);
        due("others below", x.can(-1), false);
        x.act(3);
        due("0 can now", x.can(1), true);
        x.act(1);
        due("but not back (on is 0)", x.can(0), false);
        x.act(14);
        due("tilted right", x.can(3), false);
        due("tilted right, back", x.can(2), false);
        x.by(NONE);
        due("without when it is so", x.can(3), true);
        x.act(3);
        due("three places", x.can(3), false);
    }

    private static void promise9() {
        HiddenDrawers x = desk("2332", "with 0 to 1 set 1 to 2;with 0 to 1 set 1 to 1;with 1 to 1 set 2 to 1;"
            + "with 0 to 1 set 3 to 2;with 0 to 1 set 5 to 1;with 0 to 0 set 0 to 1;tilt 1 set 2 to 2;tilt 1 set 0 to 0;");
        due("0 and 1 moved", x.act(1), 2);
        due("in order", x.place(1), 1);
        due("what is set doesn't set more", x.place(2), 0);
        due("no such place", x.place(3), 0);
        due("set to where it came from", x.act(0), 0);
        due("it is there again", x.place(0), 1);
        due("tilt sets", x.act(13), 2);
        due("2 to 2", x.place(2), 2);
        due("no more", x.act(13), NONE);
        due("others", x.act(15), NONE);
        due("others below", x.act(-1), NONE);
        due("a part that isn't told", x.act(9), NONE);
        due("steps", x.about(3), 3);
        HiddenDrawers y = desk("23", "sound part*3+on+tilt+b;");
        due("part 0 on", y.act(1), 1);
        due("part 1 on: names as all is then", y.act(3), 5);
        due("9 at most", desk("23", "sound 8+b;").act(3), 9);
        due("10 is 9", desk("23", "sound 9+b;").act(3), 9);
        due("tilt: part -1, on 0; 0 at least", y.act(13), 0);
        due("tilt: part -1", desk("2", "sound 5+part-on;").act(13), 4);
        due("back: on 0", y.act(2), 4);
        due("level: part -1", y.act(12), 0);
        HiddenDrawers z = desk("222222", "sound 5+on+part;with 4 to 1 set 3 to 1;with 3 to 1 set 5 to 1;tilt 0 set 2 to 1;");
        due("part 5", z.act(11), 9);
        due("part 4", z.act(9), 9);
        due("it sets 3", z.place(3), 1);
        due("level sets", z.act(14) + z.act(12), 8);
        due("a tilt isn't on, whatever was", z.act(13), 4);
        due("2 is set", z.place(2), 1);
        z.by(NONE);
        due("the last part counts", z.act(10), 1);
    }

    private static void ball() {
        HiddenDrawers x = desk("2", "stops at=5 and a=0 or at=2 and tilt=1;");
        x.act(14);
        due("it stops ahead of 5", x.now(1), 4);
        x.act(1);
        due("a push frees it", x.now(1), 9);
        x.act(12);
        due("level it stays", x.now(1), 9);
        x.act(13);
        due("to the left it stops ahead of 2", x.now(1), 3);
        x.undo();
        due("and is taken back", x.now(1), 9);
        x.by(NONE);
        x.act(13);
        due("without stops to the end", x.now(1), 0);
        due("a play rolls it, too", x.played(0), NONE);
        x.carts(1, 1);
        due("nothing was done", x.now(1), 0);
    }

    private static void promise10() {
        HiddenDrawers x = desk("2", "do 1;sound 3;do 14;do 1;do 0;");
        due("played(1)", x.played(1), -2);
        due("played(-1)", x.played(-1), -2);
        due("the 4th clause can't be", x.played(0), 3);
        due("what was done stays", x.place(0), 1);
        due("the tilt, too", x.now(0), 2);
        due("each a step", x.about(3), 2);
        due("the first can't be", x.played(0), 0);
        due("no do", tell(x, "sound 1;"), 1);
        due("nothing to do", x.played(1), NONE);
        HiddenDrawers y = desk("2", "when 0 tilt=1;");
        tell(y, "when 0 tilt=0;do 13;do 1;");
        due("THE TEXT rules a play", y.played(1), NONE);
        due("both done", y.about(3), 2);
    }

    private static void promise11() {
        HiddenDrawers x = desk("2", "tilt 2 set 0 to 1;");
        due("seed below", x.carts(-1, 3), NONE);
        due("seed above", x.carts(10000, 3), NONE);
        due("n 0", x.carts(0, 0), NONE);
        due("n 100", x.carts(0, 100), NONE);
        due("no step", x.about(3), 0);
        due("carts(0, 3): 1, 2, 0", x.carts(0, 3), 3);
        due("tilt", x.now(0), 0);
        due("tilts set", x.place(0), 1);
        due("the ball rolled", x.now(1), 9);
        due("one step", x.about(3), 1);
        due("taken back", x.undo(), 0);
        due("place taken back", x.place(0), 0);
        due("ball taken back", x.now(1), 0);
        due("left", x.act(13), 0);
        due("the first draw is left always", x.carts(9999, 1), 0);
        due("it is one step", x.about(3), 2);
        due("99", x.carts(9999, 99), draws(9999, 99, 1));
    }

    private static int draws(int seed, int n, int tilt) {
        long x = seed * 9L + 4;
        int done = 0;
        int at = tilt;
        for (int i = 0; i < n; i++) {
            if (x % 3 != at) done++;
            at = (int) (x % 3);
            x = (x * 211 + 91) % 30137;
        }
        return done;
    }

    private static void promise12() {
        HiddenDrawers x = new HiddenDrawers();
        due("none", x.undo(), NONE);
        x.part(3);
        x.act(1);
        x.part(2);
        x.act(3);
        x.act(14);
        due("tilt", x.undo(), 2);
        due("level", x.now(0), 0);
        due("ball", x.now(1), 0);
        due("push of 1", x.undo(), 1);
        due("push of 0", x.undo(), 0);
        due("place 0", x.place(0), 0);
        due("told since, at 0", x.place(1), 0);
        due("none more", x.undo(), NONE);
        x.act(1);
        for (int i = 0; i < 30; i++) x.act(2 + (i + 1) % 2);
        due("30 steps", x.about(3), 30);
        for (int i = 29; i >= 0; i--) due("undo", x.undo(), i);
        due("none left", x.undo(), NONE);
        due("the 31st latest stays", x.place(0), 1);
        HiddenDrawers w = new HiddenDrawers();
        for (int i = 0; i < 33; i++) w.act(12 + new int[] {2, 0, 1, 0}[i % 4]);
        int[] balls = {0, 9, 9, 0};
        for (int step = 32; step > 2; step--) {
            w.undo();
            due("the ball ahead of step " + step, w.now(1), balls[step % 4]);
        }
        HiddenDrawers y = new HiddenDrawers();
        y.part(2);
        y.act(1);
        y.part(2);
        y.by(NONE);
        tell(y, "with 0 to 1 set 1 to 1;");
        y.by(0);
        y.undo();
        y.act(1);
        y.undo();
        due("what was set", y.place(1), 0);
        due("THE TEXT stays", y.about(2), 0);
    }

    private static void promise13() {
        HiddenDrawers x = new HiddenDrawers();
        due("none", x.place(0), NONE);
        x.part(3);
        x.act(1);
        x.act(1);
        due("2", x.place(0), 2);
        due("others", x.place(1), NONE);
        due("others below", x.place(-1), NONE);
        due("far", x.place(6), NONE);
    }

    private static void promise14() {
        HiddenDrawers x = desk("2", "open a=1 and tilt=2;");
        due("tilt", x.now(0), 0);
        due("ball", x.now(1), 0);
        due("open", x.now(2), 0);
        x.act(1);
        x.act(14);
        due("tilt then", x.now(0), 2);
        due("ball then", x.now(1), 9);
        due("open then", x.now(2), 1);
        due("others", x.now(3), NONE);
        due("others below", x.now(-1), NONE);
        ball();
    }

    private static void promise15() {
        HiddenDrawers x = desk("223", "when 2 a=1 and b=1;open c=2;");
        due("how many", x.fewest(NONE), 4);
        int[] acts = {1, 3, 5, 5};
        for (int i = 0; i < 4; i++) due("act " + i, x.fewest(i), acts[i]);
        due("no 5th", x.fewest(4), NONE);
        due("others", x.fewest(-2), NONE);
        x.act(3);
        due("from how all stands", x.fewest(NONE), 3);
        due("its first", x.fewest(0), 1);
        x.by(NONE);
        due("without a text", x.fewest(NONE), NONE);
        x.by(0);
        x.played(0);
        x.act(1);
        x.act(5);
        x.act(5);
        due("it is", x.fewest(NONE), 0);
        due("none such", x.fewest(0), NONE);
        due("it can't", desk("2", "when 0 0=1;open a=1;").fewest(NONE), NONE);
        HiddenDrawers y = desk("333333", "open a=2 and b=2 and c=2 and d=2 and e=2 and f=2 and tilt=2;");
        due("too many", y.fewest(NONE), SPENT);
        due("too many for each", y.fewest(3), SPENT);
        due("others come first", y.fewest(-2), NONE);
        HiddenDrawers z = desk("33333", "open 0=1;");
        due("729 are not too many", z.fewest(NONE), NONE);
        z.part(2);
        due("1458 are", z.fewest(NONE), SPENT);
        HiddenDrawers v = desk("2", "open a=0;");
        v.by(NONE);
        v.act(1);
        v.by(0);
        due("back is an act, too", v.fewest(0), 0);
        due("found once", v.fewest(1), NONE);
        due("no such part yet", desk("2", "open b=1;").fewest(NONE), NONE);
        HiddenDrawers u = desk("2", "open b=1;");
        due("not yet", u.fewest(NONE), NONE);
        u.part(2);
        due("a part told changes it", u.fewest(NONE), 1);
        u.back();
        due("back changes it", u.fewest(NONE), NONE);
    }

    private static void promise16() {
        HiddenDrawers x = desk("22", "when 0 b=0 and a=0;when 1 b=0;open a=1 and tilt=1;");
        due("pushing 1 shuts it", x.forever(), 1 << 3);
        x.act(1);
        due("then nothing does", x.forever(), 0);
        x.undo();
        x.act(3);
        due("all that can be", x.forever(), 1 << 13 | 1 << 14);
        HiddenDrawers y = desk("2", "when 0 a=0;open a=0 or tilt=1;with 0 to 1 set 0 to 1;");
        due("open right behind it counts", y.forever(), 0);
        HiddenDrawers z = desk("2", "when 0 a=0;open a=0;");
        due("from open to never", z.forever(), 1 << 1);
        HiddenDrawers w = desk("333333", "open a=2 and b=2 and c=2 and d=2 and e=2 and f=2 and tilt=2;");
        due("no limit", w.forever(), 0);
        tell(w, "when 5 on=0;open f=1;");
        w.by(1);
        due("by another text", w.forever(), 0x6000 | 0x2AA);
        w.by(0);
        due("and by the first again", w.forever(), 0);
        HiddenDrawers v = desk("3", "when 0 on=0;open a=0;");
        v.by(NONE);
        v.act(1);
        v.by(0);
        due("by pushing back", v.forever(), 0);
        HiddenDrawers u = desk("22", "open a=1;");
        tell(u, "when 0 b=0;when 1 on=1;open a=1;");
        due("freely", u.forever(), 0);
        u.by(1);
        due("nothing is left of what was asked before", u.forever(), 1 << 3);
    }

    private static void promise17() {
        HiddenDrawers x = new HiddenDrawers();
        due("act 15", x.tried(15, 0), NONE);
        due("act -1", x.tried(-1, 0), NONE);
        due("heard 10", x.tried(0, 10), NONE);
        due("heard -2", x.tried(0, -2), NONE);
        for (int i = 1; i <= 12; i++) due("tried", x.tried(i, i < 10 ? i : NONE), i);
        due("13th", x.tried(0, 0), NONE);
        due("there are", x.about(4), 12);
    }

    private static void promise18() {
        HiddenDrawers x = new HiddenDrawers();
        due("none", x.forget(), 0);
        x.tried(0, 0);
        x.tried(14, 9);
        due("two", x.forget(), 2);
        due("nothing is", x.about(4), 0);
        due("from the first", x.tried(0, 0), 1);
    }

    private static HiddenDrawers guessed() {
        HiddenDrawers x = desk("22", "when 0 b=1;");
        tell(x, "sound a+2*b;");
        tell(x, "with 0 to 1 set 1 to 1;");
        return x;
    }

    private static void promise19() {
        HiddenDrawers x = guessed();
        due("all fit", x.fits(), 7);
        x.act(3);
        x.tried(1, 1);
        due("by 1 it is so", x.fits(), 2);
        x.tried(3, 3);
        due("one behind the other", x.fits(), 2);
        x.tried(3, NONE);
        due("it could not be", x.fits(), 2);
        x.tried(3, 1);
        due("none", x.fits(), 0);
        x.forget();
        x.tried(1, NONE);
        due("by 0 it could not", x.fits(), 1);
        x.forget();
        x.tried(1, 2);
        due("both parts", x.fits(), 4);
        due("no texts", new HiddenDrawers().fits(), 0);
    }

    private static void promise20() {
        HiddenDrawers x = guessed();
        due("0: can't by all; 1: NONE, 1, 2", x.next(), 1);
        x.tried(1, 1);
        due("one fits: the lowest", x.next(), 0);
        x.tried(1, 1);
        due("none fits", x.next(), NONE);
        due("no texts", new HiddenDrawers().next(), NONE);
        HiddenDrawers y = desk("22", "with 1 to 1 set 0 to 1;");
        tell(y, "with 1 to 1 set 0 to 1;sound 1+0*tilt;");
        tell(y, "with 1 to 1 set 0 to 1;sound 1;");
        due("0 can't, 1 is 1 by all; 3: 2, 1, 1", y.next(), 3);
        y.tried(1, 1);
        due("behind what was tried: 3 is 1 by all, 13: 0, 1, 1", y.next(), 13);
        HiddenDrawers z = desk("22", "sound 1;");
        for (int i = 1; i < 4; i++) tell(z, "sound 1;");
        due("all alike: the lowest", z.next(), 0);
        HiddenDrawers w = desk("22", "sound a;");
        tell(w, "sound a*2;");
        tell(w, "sound b*3;");
        tell(w, "sound b*4+a;");
        due("1: 1, 2, 0, 1; 3: 0, 0, 3, 4", w.next(), 1);
        w.tried(1, 1);
        due("1 and 4 fit", w.fits(), 9);
        due("0: 0 by both; 1 can't; 2 can't; 3: 1, 5", w.next(), 3);
    }

    private static void promise21() {
        HiddenDrawers x = desk("22", "when 0 b=1;open a=1;");
        tell(x, "when 1 a=1;open b=1;");
        x.act(14);
        due("of 0", x.whatever(1, NONE), 2);
        due("of 0: first", x.whatever(1, 0), 3);
        due("of 0: second", x.whatever(1, 1), 1);
        due("of 1: first", x.whatever(2, 0), 1);
        due("of both", x.whatever(3, NONE), 3);
        int[] acts = {1, 3, 1};
        for (int i = 0; i < 3; i++) due("of both " + i, x.whatever(3, i), acts[i]);
        due("no 4th", x.whatever(3, 3), NONE);
        due("others", x.whatever(3, -2), NONE);
        due("no text", x.whatever(0, NONE), NONE);
        due("no such text", x.whatever(4, NONE), NONE);
        due("below", x.whatever(-1, NONE), NONE);
        due("highest bit", x.whatever(1 << 31, NONE), NONE);
        tell(x, "");
        due("three", x.whatever(7, NONE), NONE);
        due("never open", x.whatever(5, NONE), NONE);
        due("open at once", desk("2", "open a=0;").whatever(1, NONE), 0);
        HiddenDrawers y = desk("333333", "when 0 tilt=0;when 1 tilt=0;when 2 tilt=0;when 3 tilt=0;open a=3;");
        tell(y, "when 0 tilt=1;when 1 tilt=1;when 2 tilt=1;when 3 tilt=1;open a=2 or 1=1;");
        due("2187 are not too many", y.whatever(1, NONE), NONE);
        due("both have more", y.whatever(3, NONE), SPENT);
        due("for each", y.whatever(3, 2), SPENT);
        due("always open", y.whatever(2, NONE), 0);
        due("fewest has another limit", y.fewest(NONE), SPENT);
        tell(y, "open 0=0;");
        tell(y, "open 0=0;");
        due("the lowest and the highest", y.whatever(12, NONE), 0);
        due("of no text", y.whatever(0, NONE), NONE);
        due("of a fifth", y.whatever(16, NONE), NONE);
        due("below", y.whatever(-16, NONE), NONE);
    }

    private static void promise22() {
        HiddenDrawers x = new HiddenDrawers();
        due("0", x.hollow(0), NONE);
        due("100", x.hollow(100), NONE);
        for (int i = 1; i <= 10; i++) due("hollow", x.hollow(i == 1 ? 99 : 1), i);
        due("11th", x.hollow(1), NONE);
        due("its size", x.about(20), 99);
    }

    private static void promise23() {
        HiddenDrawers x = new HiddenDrawers();
        due("none told", x.measure(1, NONE), 0);
        for (int i = 0; i < 10; i++) x.hollow(99);
        due("all", x.measure(990, NONE), 1);
        due("all of them", x.measure(990, 0), 1023);
        due("two of ten", x.measure(198, NONE), 45);
        due("the lowest", x.measure(198, 0), 3);
        due("the next", x.measure(198, 1), 5);
        due("the highest", x.measure(198, 44), 768);
        due("none such", x.measure(198, 45), NONE);
        due("0", x.measure(0, NONE), NONE);
        due("999", x.measure(999, NONE), 0);
        due("1000", x.measure(1000, NONE), NONE);
        due("others", x.measure(198, -2), NONE);
    }

    private static void promise24() {
        HiddenDrawers x = desk("23", "open a=1;");
        due("parts", x.image(), 2);
        x.act(1);
        due("later", x.image(), 2);
        x.act(0);
        x.back();
        due("the latest image", x.place(0), 1);
        due("an empty one", new HiddenDrawers().image(), 0);
    }

    private static void promise25() {
        HiddenDrawers x = desk("23", "open a=1;do 3;");
        x.act(1);
        x.act(14);
        x.hollow(4);
        x.tried(1, 1);
        x.image();
        for (int round = 0; round < 2; round++) {
            x.part(2);
            x.act(0);
            x.act(13);
            x.undo();
            x.undo();
            x.undo();
            x.act(3);
            x.act(3);
            x.act(2);
            x.hollow(5);
            x.forget();
            x.tried(3, 4);
            due("another text", tell(x, round == 0 ? "do 0;" : "open 1=1;"), 1);
            x.by(1);
            x.feed(0, 0, 0, 0, 0);
            due("back", x.back(), 2);
            int[] about = {2, 1, 0, 2, 1, 1, 20};
            for (int what = 0; what < 7; what++) due("about " + what, x.about(what), about[what]);
            due("no third part", x.place(2), NONE);
            due("nor is it pushed", x.act(5), NONE);
            due("nor looked at", x.about(12), -2);
            due("place", x.place(0), 1);
            due("tilt", x.now(0), 2);
            due("ball", x.now(1), 9);
            due("open", x.now(2), 1);
            due("no second hollow", x.about(21), -2);
            due("steps are there again", x.undo(), 1);
            due("with what they hold", x.now(0), 0);
            due("fewest follows", x.fewest(NONE), 0);
            due("undo", x.undo(), 0);
            due("fewest follows undo", x.fewest(NONE), 1);
            due("tried", x.fits(), 1);
        }
        due("played still by the first text", x.played(0), NONE);
        HiddenDrawers y = new HiddenDrawers();
        y.act(14);
        y.act(12);
        y.image();
        y.undo();
        y.undo();
        y.act(13);
        y.act(12);
        y.back();
        y.undo();
        due("the ball of a step, too", y.now(1), 9);
        y.undo();
        due("the ball of the first", y.now(1), 0);
    }

    private static void promise26() {
        HiddenDrawers x = desk("23", "");
        x.hollow(42);
        x.feed(0, 0, 0, 0, 0);
        x.tried(0, NONE);
        x.act(1);
        int[] about = {2, 1, 0, 1, 1, 1, 20, -2, -2, -2, 2, 3, -2, -2};
        for (int what = 0; what < about.length; what++) due("about " + what, x.about(what), about[what]);
        due("a hollow", x.about(20), 42);
        due("no hollow", x.about(21), -2);
        due("19", x.about(19), -2);
        due("below", x.about(-1), -2);
        due("far", x.about(Integer.MAX_VALUE), -2);
        due("far below", x.about(Integer.MIN_VALUE), -2);
        x.by(NONE);
        due("no text rules", x.about(2), NONE);
    }

    public static void main(String[] args) {
        promise1();
        promise2();
        promise3();
        promise4();
        promise5();
        promise6();
        promise7();
        promise8();
        promise9();
        promise10();
        promise11();
        promise12();
        promise13();
        promise14();
        promise15();
        promise16();
        promise17();
        promise18();
        promise19();
        promise20();
        promise21();
        promise22();
        promise23();
        promise24();
        promise25();
        promise26();
        end();
    }
}
