/** Promises 44 and 45, sentence by sentence: what goes back, what is kept, what forgets; the image. */
public final class BoundsOfUndoTest {
    public static void main(String[] args) {
        Sentences.run(BoundsOfUndoTest.class, 44, 45);
    }

    private static void due(String what, long got, long want) {
        Sentences.due(what, got, want);
    }

    private static void due(String what, boolean got, boolean want) {
        Sentences.due(what, got, want);
    }

    /** The call, undone, has changed nothing. */
    private static void goesBack(String what, long want, Twins.Call call) {
        Twins.alike(what + ", undone", () -> {
            BasketEnvoys x = Twins.few();
            due(what, call.on(x), want);
            due("kept behind " + what, x.look(13), 3);
            due("undo " + what, x.undo(), true);
            due("left behind " + what, x.look(13), 2);
            return x;
        }, Twins::few);
    }

    private static void forgets(String what, Twins.Call call) {
        BasketEnvoys x = Twins.full();
        due("six can be undone", x.look(13), 6);
        call.on(x);
        due("left behind " + what, x.look(13), 0);
        String before = Twins.being(x);
        due("undo behind " + what, x.undo(), false);
        Sentences.due("as it was behind " + what, Twins.being(x), before);
        due("one can be undone again", Twins.yes(x.act(2, 1, 5)), 1);
        due("one", x.look(13), 1);
        due("undone", x.undo(), true);
        Sentences.due("as it was behind " + what, Twins.being(x), before);
    }

    /** Behind the call the latest thing done goes back as it would without it. */
    private static void forgetsNothing(String what, Twins.Call call) {
        BasketEnvoys x = Twins.full();
        call.on(x);
        BasketEnvoys y = Twins.full();
        due("left behind " + what, x.look(13), 6);
        for (int i = 0; i < 7; i++) {
            due("undo " + i + " behind " + what, x.undo(), i < 6);
            y.undo();
            due("lines " + i, x.look(7), y.look(7));
            due("state " + i, x.look(8), y.look(8));
            due("away " + i, x.look(5), y.look(5));
            due("things " + i, x.of(1, 5), y.of(1, 5));
            due("left " + i, x.look(13), Math.max(0, 5 - i));
        }
    }

    // ---- 44: undo

    static void p44NothingToUndo() {
        Twins.changesNothing("of a new one", BasketEnvoys::new, 0, x -> Twins.yes(x.undo()));
        Twins.changesNothing("behind what was told", () -> {
            BasketEnvoys x = Twins.full();
            x.state(5);
            return x;
        }, 0, x -> Twins.yes(x.undo()));
        Twins.changesNothing("behind all that was done", () -> {
            BasketEnvoys x = Twins.few();
            x.undo();
            x.undo();
            return x;
        }, 0, x -> Twins.yes(x.undo()));
    }

    static void p44ADayGoesBack() {
        goesBack("a day", Twins.few().days(1), x -> x.days(1));
    }

    static void p44ADayWithACryGoesBack() {
        Twins.Maker before = () -> {
            BasketEnvoys x = Twins.few();
            x.end(0);
            Checks.tell(x, 0, "cries 1000;");
            return x;
        };
        BasketEnvoys x = before.make();
        x.days(1);
        due("known", x.look(6) & 1, 1);
        due("lost", x.look(3), 1);
        due("trust", x.powerOf(0, 0), 0);
        Twins.alike("undone", () -> {
            BasketEnvoys y = before.make();
            y.days(1);
            y.undo();
            return y;
        }, before);
    }

    static void p44ADayWithACourtGoesBack() {
        Twins.Maker before = () -> {
            BasketEnvoys x = Twins.few();
            x.end(0);
            Checks.tell(x, 2, "on 1 gift 1 7;on 1 mourn 2 9;on 1 send 2 1;on 1 home 0;");
            x.act(2, 2, 9);
            return x;
        };
        BasketEnvoys x = before.make();
        x.days(1);
        due("grief", x.of(2, 1), 9);
        Twins.alike("undone", () -> {
            BasketEnvoys y = before.make();
            y.days(1);
            y.undo();
            return y;
        }, before);
    }

    static void p44EachSingleDayIsOne() {
        BasketEnvoys x = Twins.few();
        x.days(3);
        due("kept", x.look(13), 5);
        for (int day = 3; day >= 1; day--) {
            due("undo", x.undo(), true);
            due("day", x.look(4), day);
        }
        due("left", x.look(13), 2);
    }

    static void p44SendingGoesBack() {
        goesBack("sending", 1, x -> Twins.yes(x.act(0, 1, 2)));
        goesBack("sending", 1, x -> Twins.yes(x.act(0, 2, 0)));
    }

    static void p44CallingHomeGoesBack() {
        goesBack("home", 1, x -> Twins.yes(x.act(1, 0, 0)));
    }

    static void p44PuttingGoesBack() {
        goesBack("putting", 1, x -> Twins.yes(x.act(2, 1, 7)));
        goesBack("putting", 1, x -> Twins.yes(x.act(2, 2, 7)));
    }

    static void p44EmptyingGoesBack() {
        goesBack("emptying", 1, x -> Twins.yes(x.act(3, 1, 7)));
    }

    static void p44APrickGoesBack() {
        goesBack("a prick", 1, x -> Twins.yes(x.act(4, 1, 0)));
        goesBack("a prick without a draw", 1, x -> Twins.yes(x.act(4, 2, 0)));
        BasketEnvoys x = Twins.few();
        x.end(0);
        Checks.tell(x, 0, "cries 1000;");
        int state = x.look(8);
        int lines = x.look(7);
        x.act(4, 2, 0);
        due("known", x.of(2, 4), 1);
        x.undo();
        due("known no more", x.of(2, 4), 0);
        due("state", x.look(8), state);
        due("lines", x.look(7), lines);
    }

    static void p44TheBookGoesBack() {
        BasketEnvoys x = Twins.few();
        int lines = x.look(7);
        x.act(0, 1, 2);
        due("a line", x.book(lines, 1), 0);
        x.undo();
        due("no line", x.book(lines, 1), -1);
        due("the one before", x.book(lines - 1, 1), 6);
        x.act(0, 1, 1);
        due("another line", x.book(lines, 3), 1);
    }

    /** One who is at a power that nods at each of his things, and wants two of them. */
    private static BasketEnvoys nodding() {
        BasketEnvoys x = new BasketEnvoys();
        x.power(40);
        x.mute(5, 4, false);
        Checks.tell(x, 0, "cries 0;nods 1000;wins 2;");
        Checks.tell(x, 3, "power 0 wants 5 6;");
        x.act(2, 0, 5);
        x.act(2, 0, 6);
        x.act(2, 0, 5);
        x.act(0, 0, 0);
        return x;
    }

    private static String readings(BasketEnvoys x) {
        return x.powerOf(0, 0) + " " + x.powerOf(0, 1) + " " + x.powerOf(0, 2) + " " + x.powerOf(0, 3);
    }

    static void p44TrustStepNodsAndTreatiesGoBack() {
        String[] days = {"40 0 0 0", "42 1 1 0", "44 0 2 1", "46 1 3 1"};
        BasketEnvoys x = nodding();
        x.days(3);
        for (int day = 3; day > 0; day--) {
            Sentences.due("day " + day, readings(x), days[day]);
            x.undo();
        }
        Sentences.due("day 0", readings(x), days[0]);
    }

    static void p44TheLatestFirst() {
        BasketEnvoys x = new BasketEnvoys();
        x.mute(1, 1, false);
        for (int i = 0; i < 4; i++) {
            x.act(2, 0, 5 + i);
        }
        for (int i = 4; i > 0; i--) {
            due("things", x.of(0, 5), i);
            due("the last", x.of(0, 9 + i), 4 + i);
            due("undo", x.undo(), true);
        }
        due("none", x.of(0, 5), 0);
    }

    static void p44SixAreKeptAndNotSeven() {
        for (int count = 5; count <= 8; count++) {
            BasketEnvoys x = new BasketEnvoys();
            x.mute(1, 1, false);
            for (int i = 0; i < count; i++) {
                x.act(2, 0, i);
            }
            due("kept of " + count, x.look(13), Math.min(6, count));
            for (int i = 1; i <= 6; i++) {
                due("undo " + i + " of " + count, x.undo(), i <= count);
            }
            due("no seventh of " + count, x.undo(), false);
            due("things left of " + count, x.of(0, 5), Math.max(0, count - 6));
        }
    }

    static void p44UndoneAndDoneAgainManyTimes() {
        BasketEnvoys x = new BasketEnvoys();
        x.mute(1, 1, false);
        x.power(1);
        for (int round = 0; round < 20; round++) {
            for (int i = 0; i < 4; i++) {
                due("put", x.act(2, 0, i), true);
            }
            for (int i = 3; i >= 0; i--) {
                due("undo", x.undo(), true);
                due("things", x.of(0, 5), i);
            }
            due("nothing left", x.undo(), false);
        }
    }

    static void p44WhatCantBeDoneIsNotKept() {
        Twins.changesNothing("an act that can't be", 0, x -> Twins.yes(x.act(1, 1, 0)));
        Twins.changesNothing("days that can't be", -1, x -> x.days(61));
    }

    static void p44WhateverElseIsToldForgetsThem() {
        forgets("state", x -> x.state(5));
        forgets("the same state", x -> x.state(x.look(8)));
        forgets("a power", x -> x.power(5));
        forgets("a mute", x -> x.mute(5, 5, false));
        for (int what = 0; what <= 4; what++) {
            int w = what;
            forgets("set " + what, x -> Twins.yes(x.set(w, 0, 1)));
        }
    }

    static void p44TonguesCourtAndWantsForgetThem() {
        String[] texts = {"", "power 0 thing 1 says 2;", "on 1 home 0;", "power 0 wants 3;"};
        for (int k = 1; k < 4; k++) {
            int text = k;
            forgets("text " + k, x -> {
                x.end(0);
                return Checks.tell(x, text, texts[text]);
            });
            forgets("an empty text " + k, x -> {
                x.end(0);
                return x.text(text);
            });
        }
    }

    static void p44TheLawDoesNotForgetThem() {
        forgetsNothing("the law", x -> x.text(0));
        forgetsNothing("an empty law", x -> {
            x.end(0);
            return x.text(0);
        });
        forgetsNothing("a law with a fault", x -> {
            x.end(0);
            return Checks.tell(x, 0, "cries 1/0;");
        });
    }

    static void p44TheLawStaysAsItWasToldBehindUndo() {
        BasketEnvoys x = Twins.full();
        x.end(0);
        Checks.tell(x, 0, "cries 77;nods 5;");
        x.undo();
        due("lines", x.look(9), 2);
        due("cries", x.of(1, 7), 77);
    }

    static void p44TextsWithAFaultDoNotForgetThem() {
        for (int k = 0; k < 6; k++) {
            int text = k;
            forgetsNothing("a fault of " + k, x -> {
                x.end(0);
                return Checks.tell(x, text, "?");
            });
        }
    }

    static void p44TheTapeDoesNotForgetThem() {
        forgetsNothing("feed", x -> x.feed(1, 2, 3, 4, 5));
        forgetsNothing("end", x -> Twins.yes(x.end(2)));
    }

    static void p44WhatIsToldForThoughtDoesNotForgetThem() {
        Twins.Call[] calls = {
            x -> x.shows(1), x -> x.shows(-1), x -> Twins.yes(x.weighs(1, 1)), x -> x.hears(1), x -> x.hears(-1), x -> x.hears(-2),
            x -> x.count(1), x -> x.count(-1), x -> Twins.yes(x.table(0, 0, 1)), x -> Twins.yes(x.table(1, 0, 1)),
            x -> Twins.yes(x.worth(0, 0, 1)), x -> x.load(1, 1), x -> x.load(-1, 1), x -> x.promise(0, 1, 0), x -> x.promise(-1, 0, 0),
            x -> Twins.yes(x.hat(0, 1)), x -> x.border(0, 1), x -> x.border(-1, 0), x -> x.cloth(0, 1), x -> x.cloth(1, 1),
            x -> x.cloth(0, -1), x -> x.interpreter(1234), x -> x.interpreter(-1),
        };
        for (int i = 0; i < calls.length; i++) {
            forgetsNothing("call " + i, calls[i]);
        }
    }

    static void p44WhatIsToldForThoughtStaysBehindUndo() {
        BasketEnvoys x = Twins.full();
        x.count(50);
        x.interpreter(43210);
        x.undo();
        due("counts", x.signs(), 66);
        due("interpreters", x.word(3), 0);
    }

    static void p44TakingTheImageDoesNotForgetThem() {
        forgetsNothing("the image", x -> Twins.yes(x.image(true)));
    }

    static void p44WhatIsRefusedDoesNotForgetThem() {
        forgetsNothing("a power", x -> x.power(100));
        forgetsNothing("a mute", x -> x.mute(10, 0, false));
        forgetsNothing("set", x -> Twins.yes(x.set(0, 0, 100)));
        forgetsNothing("another set", x -> Twins.yes(x.set(5, 0, 0)));
        forgetsNothing("no such text", x -> x.text(4));
    }

    static void p44GoingBackToTheImageForgetsThem() {
        BasketEnvoys x = Twins.full();
        due("back", x.image(false), true);
        due("nothing then", x.look(13), 0);
        due("undo", x.undo(), false);
    }

    // ---- 45: image

    static void p45ThereIsNone() {
        Twins.changesNothing("no image", BasketEnvoys::new, 0, x -> Twins.yes(x.image(false)));
        Twins.changesNothing("no image", () -> {
            BasketEnvoys x = new BasketEnvoys();
            x.power(5);
            x.mute(1, 1, true);
            x.act(2, 0, 4);
            x.days(1);
            return x;
        }, 0, x -> Twins.yes(x.image(false)));
    }

    static void p45TakingItChangesNothingElse() {
        Twins.alikeBut("taken", Twins::full, () -> {
            BasketEnvoys x = Twins.full();
            due("taken", x.image(true), true);
            return x;
        }, "the image");
    }

    private static void changeAll(BasketEnvoys x) {
        x.end(0);
        x.days(2);
        x.power(11);
        x.mute(7, 7, true);
        x.set(0, 0, 77);
        x.set(1, 0, 7);
        x.set(2, 0, 7);
        x.set(3, 1, 1);
        x.set(4, 0, 77);
        x.state(-5);
        Checks.tell(x, 0, "nods 1;cries 1;");
        Checks.tell(x, 1, "power 0 thing 3 says 9;");
        Checks.tell(x, 2, "on 5 home 0;");
        Checks.tell(x, 3, "power 0 wants 7 7 7;power 1 wants 9;power 3 wants 1;");
        x.shows(-1);
        x.shows(1);
        x.shows(2);
        x.hears(-1);
        x.hears(2);
        x.hears(3);
        x.weighs(1, 70);
        x.count(-1);
        x.count(70);
        x.count(80);
        x.table(0, 4, -5);
        x.table(1, 4, 5);
        x.worth(0, 1, 70);
        x.load(-1, 0);
        x.load(1, 70);
        x.load(2, 70);
        x.promise(-1, 0, 0);
        x.promise(4, 5, 1);
        x.promise(5, 6, 1);
        x.hat(0, 0);
        x.hat(1, 0);
        x.border(-1, 0);
        x.border(4, 5);
        x.cloth(0, -1);
        x.cloth(0, 9);
        x.cloth(1, -1);
        x.cloth(1, 9);
        x.cloth(1, 9);
        x.interpreter(-1);
        x.interpreter(43210);
        x.act(2, 2, 8);
        x.act(0, 2, 1);
        x.act(4, 3, 0);
        x.days(4);
    }

    static void p45AllThatIsAndWasToldAsItWas() {
        for (int times = 1; times <= 3; times++) {
            int rounds = times;
            Twins.alikeBut("back " + times, () -> {
                BasketEnvoys x = Twins.full();
                x.image(true);
                for (int i = 0; i < rounds; i++) {
                    changeAll(x);
                    due("back", x.image(false), true);
                }
                return x;
            }, () -> {
                BasketEnvoys y = Twins.full();
                y.end(0);
                y.image(true);
                y.image(false);
                return y;
            }, "the fault");
        }
    }

    static void p45TrustStepNodsAndTreatiesComeBack() {
        BasketEnvoys x = nodding();
        x.days(3);
        x.image(true);
        x.days(2);
        x.act(0, 0, 0);
        x.days(3);
        Checks.tell(x, 3, "power 0 wants 5 6;");
        x.set(0, 0, 9);
        x.image(false);
        Sentences.due("day 3", readings(x), "46 1 3 1");
        due("at", x.of(0, 3), 0);
        due("shown", x.of(0, 6), 3);
    }

    static void p45WhoComesAgainBeginsAnew() {
        BasketEnvoys x = new BasketEnvoys();
        Checks.tell(x, 0, "cries 1000 when day=2;cries 0;nods 1000;");
        x.image(true);
        for (int times = 0; times < 2; times++) {
            due("power", x.power(40), 0);
            due("mute", x.mute(5, 4, true), 0);
            Sentences.due("readings", readings(x), "40 0 0 0");
            for (int what = 4; what <= 6; what++) {
                due("mute " + what, x.of(0, what), 0);
            }
            due("at home", x.of(0, 3), -1);
            due("wants", x.powerOf(0, 4), 0);
            due("says", x.powerOf(0, 105), 5);
            Checks.tell(x, 1, "power 0 thing 5 says 7;");
            Checks.tell(x, 3, "power 0 wants 7 6;");
            for (int i = 0; i < 3; i++) {
                x.act(2, 0, 5 + i % 2);
            }
            x.act(0, 0, 0);
            x.days(1);
            due("step", x.powerOf(0, 1), 1);
            x.days(1);
            due("treaties", x.powerOf(0, 3), 1);
            x.days(1);
            due("known", x.of(0, 4), 1);
            x.image(false);
        }
    }

    static void p45AllOfItIsChangedBeforeThat() {
        BasketEnvoys x = Twins.full();
        changeAll(x);
        BasketEnvoys y = Twins.full();
        due("another town", Twins.being(x).equals(Twins.being(y)), false);
        due("signs", Twins.yes(x.signs() == y.signs()), 0);
        due("word", Twins.yes(x.word(3) == y.word(3)), 0);
        due("kept", Twins.yes(x.kept(0) == y.kept(0)), 0);
    }

    static void p45TheTapeIsNotInIt() {
        BasketEnvoys x = Twins.full();
        x.image(true);
        x.end(4);
        x.image(false);
        due("five", x.end(5), false);
        due("four", x.end(4), true);
        x.end(0);
        Checks.feed(x, "cries 55;");
        x.image(false);
        due("the tape told", x.text(0), 1);
        due("cries", x.of(1, 7), 55);
    }

    static void p45TheFaultIsNotInIt() {
        BasketEnvoys x = Twins.full();
        x.image(true);
        x.end(0);
        Checks.tell(x, 0, "nods 1/0;");
        x.image(false);
        due("fault", x.fault(0), 2);
        due("place", x.fault(1), 7);
        Checks.tell(x, 0, "");
        x.image(true);
        Checks.tell(x, 0, "?");
        x.image(false);
        due("fault", x.fault(0), 1);
        due("place", x.fault(1), 0);
    }

    static void p45NothingCanBeUndoneThen() {
        BasketEnvoys x = Twins.full();
        x.image(true);
        x.act(2, 1, 4);
        x.image(false);
        due("kept", x.look(13), 0);
        Twins.changesNothing("undo", () -> {
            BasketEnvoys y = Twins.full();
            y.image(false);
            return y;
        }, 0, y -> Twins.yes(y.undo()));
    }

    static void p45TheLatestOneTaken() {
        BasketEnvoys x = new BasketEnvoys();
        x.image(true);
        x.power(5);
        x.image(true);
        x.power(6);
        x.image(false);
        due("one power", x.look(0), 1);
        x.image(false);
        due("one power still", x.look(0), 1);
    }

    static void p45OfANewOne() {
        Twins.alikeBut("an image of nothing", () -> {
            BasketEnvoys x = new BasketEnvoys();
            x.image(true);
            x.power(5);
            x.mute(5, 5, true);
            x.days(5);
            x.image(false);
            return x;
        }, BasketEnvoys::new, "the image");
    }

    static void p45TheImageStaysWhateverIsUndone() {
        BasketEnvoys x = Twins.few();
        x.image(true);
        int things = x.of(1, 5);
        x.undo();
        x.undo();
        due("fewer things", x.of(1, 5), things - 1);
        x.act(0, 1, 1);
        due("back", x.image(false), true);
        due("things", x.of(1, 5), things);
        due("at home", x.of(1, 3), -1);
    }

    static void p45TheBookIsInIt() {
        BasketEnvoys x = new BasketEnvoys();
        x.power(1);
        x.mute(1, 1, false);
        x.act(0, 0, 0);
        x.act(1, 0, 0);
        x.image(true);
        x.undo();
        x.undo();
        x.act(4, 0, 0);
        x.act(4, 0, 0);
        due("another line", x.book(0, 1), 6);
        x.image(false);
        due("lines", x.look(7), 2);
        due("sent", x.book(0, 1), 0);
        due("home", x.book(1, 1), 5);
    }
}
