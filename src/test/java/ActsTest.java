/** Promises 44 to 53: acts, undoing, images, and what is told. */
public final class ActsTest {
    private ActsTest() {
    }

    public static void main(String[] args) {
        pays();
        letsOff();
        sheds();
        springs();
        undoes();
        images();
        led();
        sizes();
        troubles();
        refusals();
        Check.end();
    }

    private static void pays() {
        AntlerYear x = Check.told(Check.BASE);
        Check.due(x, "pay(0, 4)", x.pay(0, 4), 8, 0);
        Check.due("abe's coins", x.man(0, 1), 5);
        Check.due("cal's coins", x.man(2, 1), 44);
        Check.due("what is left", x.debt(0, 2), 8);
        Check.due("abe's head", x.man(0, 3), 2);
        Check.due(x, "pay with too few coins", x.pay(0, 6), -1, 6);
        Check.due(x, "pay more than is left", x.pay(0, 9), -1, 5);
        Check.due(x, "pay of a debt to come", x.pay(1, 1), -1, 5);
        Check.due(x, "pay(6, 1)", x.pay(6, 1), -1, 1);
        Check.due(x, "pay(-1, 1)", x.pay(-1, 1), -1, 1);
        Check.due(x, "pay(6, 0)", x.pay(6, 0), -1, 1);
        Check.due(x, "pay(0, 0)", x.pay(0, 0), -1, 2);
        Check.due(x, "pay(0, 100)", x.pay(0, 100), -1, 2);
        Check.due(x, "pay(1, 100)", x.pay(1, 100), -1, 2);
        Check.due(x, "pay all", x.pay(2, 8), 0, 0);
        Check.due(x, "pay of nothing left", x.pay(2, 1), -1, 5);
        Check.due("dov's coins", x.man(3, 1), 11);
        Check.due(x, "pay with what he was paid", x.pay(3, 11), 0, 0);
        Check.due("acts", x.size(11), 3);
    }

    private static void letsOff() {
        AntlerYear x = Check.told(Check.BASE);
        Check.due(x, "letOff(1)", x.letOff(1), -1, 6);
        Check.due(x, "letOff(4)", x.letOff(4), -1, 1);
        Check.due(x, "letOff(-1)", x.letOff(-1), -1, 1);
        Check.due("no act yet", x.size(11), 0);
        Check.due(x, "letOff(3)", x.letOff(3), 8, 0);
        int[] left = {4, 6, 0, 3, 20, 1};
        for (int k = 0; k < left.length; k++) {
            Check.due("left of " + k, x.debt(k, 2), left[k]);
        }
        Check.due("no coins go", x.man(0, 1), 9);
        Check.due(x, "letOff(3) again", x.letOff(3), -1, 6);
        Check.due("one act", x.size(11), 1);
        AntlerYear more = Check.told("duchy tine 1 errs 0 lock 0 moth 0;man a common coins 0 strong 0;"
            + "man b common coins 0 strong 0;man c common coins 0 strong 0;owes a b 9 spring 1;owes a b 3 spring 0;"
            + "owes a c 9 spring 0;owes a b 4 spring 0;owes a b 5 spring 0;owes b a 9 spring 0");
        Check.due(more, "letOff over several debts", more.letOff(1), 9, 0);
        int[] then = {9, 0, 9, 0, 3, 0};
        for (int k = 0; k < then.length; k++) {
            Check.due("left of several, " + k, more.debt(k, 2), then[k]);
        }
    }

    private static void sheds() {
        AntlerYear x = Check.told(Check.BASE);
        Check.due(x, "shed(0)", x.shed(0), 12, 0);
        Check.due("the debt to come stays", x.debt(1, 2), 6);
        Check.due("cal's debt stays", x.debt(2, 2), 8);
        Check.due("coins stay", x.man(0, 1), 9);
        Check.due(x, "shed(0) again", x.shed(0), -1, 5);
        Check.due(x, "shed(4)", x.shed(4), -1, 1);
        Check.due(x, "shed(-1)", x.shed(-1), -1, 1);
        x.spring();
        Check.due(x, "shed(0) in the next spring", x.shed(0), 6, 0);
        x.spring();
        Check.due(x, "shed(3) of two debts", x.shed(3), 12, 0);
        Check.due(x, "a lady's shed(1)", x.shed(1), 20, 0);
        Check.due("acts", x.size(11), 6);
    }

    private static void springs() {
        AntlerYear x = Check.told(Check.BASE);
        Check.due(x, "spring()", x.spring(), 11, 0);
        Check.due("the spring now", x.size(10), 1);
        for (int n = 2; n <= 400; n++) {
            x.spring();
        }
        Check.due("the spring then", x.size(10), 400);
        Check.due("acts kept", x.size(11), 16);
        // Each object is promised for 512 calls only; that the 1000th spring is refused is the document's word too.
        for (int n = 401; n <= 999; n++) {
            x.spring();
        }
        Check.due(x, "the last spring", x.size(10), 999, 0);
        Check.due(x, "a spring beyond it", x.spring(), -1, 3);
        Check.due("the spring stays", x.size(10), 999);
        Check.due("heads stay", x.heads(), 11);
    }

    private static void undoes() {
        AntlerYear x = Check.told(Check.BASE);
        Check.due(x, "undo() of nothing", x.undo() ? 1 : 0, 0, 6);
        x.pay(0, 4);
        x.spring();
        x.shed(0);
        x.letOff(2);
        Check.due("acts but the refused one", x.size(11), 3);
        Check.due(x, "undo() of shed", x.undo() ? 1 : 0, 1, 0);
        Check.due("left again", x.debt(0, 2), 8);
        Check.due("left again, too", x.debt(1, 2), 6);
        x.letOff(2);
        Check.due("let off", x.debt(2, 2), 0);
        x.undo();
        Check.due("not let off", x.debt(2, 2), 8);
        x.undo();
        Check.due("the spring is 0 again", x.size(10), 0);
        x.undo();
        Check.due("not paid", x.debt(0, 2), 12);
        Check.due("coins again", x.man(0, 1), 9);
        Check.due("coins again, too", x.man(2, 1), 40);
        Check.due(x, "undo() of no more", x.undo() ? 1 : 0, 0, 6);
        for (int n = 0; n < 20; n++) {
            x.spring();
        }
        for (int n = 0; n < 16; n++) {
            Check.due(x, "undo() " + n, x.undo() ? 1 : 0, 1, 0);
            Check.due("acts left", x.size(11), 15 - n);
            Check.due("springs left", x.size(10), 19 - n);
        }
        Check.due(x, "undo() of the 17th", x.undo() ? 1 : 0, 0, 6);
        Check.due("four springs stay", x.size(10), 4);
    }

    private static void images() {
        AntlerYear x = Check.told(Check.BASE);
        Check.due(x, "back(0) of none", x.back(0) ? 1 : 0, 0, 1);
        Check.due(x, "image()", x.image(), 0, 0);
        x.pay(0, 4);
        x.spring();
        Check.due(x, "image() again", x.image(), 1, 0);
        Check.due("an image is no act", x.size(11), 2);
        x.shed(0);
        Check.due(x, "the third image()", x.image(), 2, 0);
        Check.due(x, "the fourth image()", x.image(), -1, 3);
        Check.due("images", x.size(12), 3);
        Check.due(x, "back(3)", x.back(3) ? 1 : 0, 0, 1);
        Check.due(x, "back(-1)", x.back(-1) ? 1 : 0, 0, 1);
        Check.due("acts stay", x.size(11), 3);
        Check.due(x, "back(0)", x.back(0) ? 1 : 0, 1, 0);
        Check.due("nothing can be undone", x.size(11), 0);
        Check.due(x, "undo() then", x.undo() ? 1 : 0, 0, 6);
        Check.due("the spring", x.size(10), 0);
        Check.due("coins", x.man(0, 1), 9);
        Check.due("left", x.debt(0, 2), 12);
        Check.due("images stay", x.size(12), 3);
        x.spring();
        x.back(1);
        Check.due("the second image's spring", x.size(10), 1);
        Check.due("the second image's coins", x.man(0, 1), 5);
        Check.due("the second image's debt", x.debt(0, 2), 8);
        x.back(2);
        Check.due("the third image's debt", x.debt(0, 2), 0);
        x.spring();
        Check.due("one act", x.size(11), 1);
        x.undo();
        x.back(0);
        Check.due("the first image as it was", x.debt(0, 2), 12);
    }

    private static void led() {
        AntlerYear x = Check.told(Check.BASE);
        Check.due("led(0)", Check.led(x, 0), Check.THREW);
        x.spring();
        x.shed(9);
        Check.due("led(0) then", Check.led(x, 0), 0);
        Check.due("led(1) then", Check.led(x, 1), Check.THREW);
        Check.due("led(-1) then", Check.led(x, -1), Check.THREW);
        Check.due("trouble() is not of led", x.trouble(), 1);
        AntlerYear two = Check.told("duchy tine 1 errs 0 lock 0 moth 0;man a common coins 0 strong 9;"
            + "man b duke coins 0 strong 9;man c lady coins 0 strong 0;man d freak coins 0 strong 4;"
            + "owes a b 9 spring 0;owes b a 5 spring 0;owes c a 9 spring 0;owes d a 9 spring 0");
        Check.due("led(0) of two", Check.led(two, 0), 1);
        Check.due("led(1) of two", Check.led(two, 1), 3);
        Check.due("led(2) of two", Check.led(two, 2), Check.THREW);
        Check.due("led(0) without a duchy", Check.led(new AntlerYear(), 0), Check.THREW);
    }

    private static void sizes() {
        AntlerYear x = Check.told(Check.BASE);
        int[] want = {5, 20, 50, 50, 4, 6, 2, 3, 3, 2, 0, 0, 0, 0, -1};
        for (int what = 0; what < want.length; what++) {
            Check.due("size(" + what + ")", x.size(what), want[what]);
        }
        x.feed(1, 2, 3, 4, 5);
        x.image();
        x.spring();
        int[] then = {1, 1, 1, 20};
        for (int what = 10; what < 14; what++) {
            Check.due("size(" + what + ") then", x.size(what), then[what - 10]);
        }
        Check.due("size(-1)", x.size(-1), -1);
        Check.due("trouble() is not of size", x.trouble(), 0);
    }

    private static void troubles() {
        AntlerYear x = Check.told(Check.BASE);
        x.headIn(0, 21);
        x.size(99);
        x.feed(0, 0, 0, 0, 0);
        x.fault();
        x.where();
        x.trouble();
        Check.led(x, 7);
        Check.due("trouble() is of the latest call that may be refused", x.trouble(), 2);
        x.when(0, 99);
        Check.due("-2 is no refusal", x.trouble(), 0);
        x.duchy(20);
        Check.due("where() of zeros", x.where(), 0);
        x.heads();
        Check.due("where() behind a call that is not refused", x.where(), -1);
        Check.due("fault() then", x.fault(), 1);
    }

    private static void refusals() {
        AntlerYear x = new AntlerYear();
        Check.due(x, "pay", x.pay(0, 1), -1, 1);
        Check.due(x, "letOff", x.letOff(0), -1, 1);
        Check.due(x, "shed", x.shed(0), -1, 1);
        Check.due(x, "spring", x.spring(), -1, 1);
        Check.due(x, "undo", x.undo() ? 1 : 0, 0, 6);
        Check.due(x, "image", x.image(), -1, 1);
        Check.due(x, "back", x.back(0) ? 1 : 0, 0, 1);
    }
}
