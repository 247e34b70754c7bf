/** For each promise of the document its ordinary inputs, the edges that it names, and wrong inputs; reckoned by hand. */
public final class PromisesTest extends Checks {
    public static void main(String[] args) {
        setupPromises();
        lookingPromises();
        forecastPromises();
        findingPromises();
        keptPromises();
        changePromises();
        outputAndSavingPromises();
        end("PromisesTest");
    }

    private static void setupPromises() {
        promise1();
        promise2();
        promise3();
        promise4();
        promises5And6();
    }

    private static void promise1() {
        about = "promise 1";
        GateCounter x = new GateCounter();
        due("10,0,0,1,10,1,0", () -> settings(x));
        due("0 0 0 0 0 0 0 0 0 ", () -> numbers(x));
        due("10 0 0 -1 0 -1 ", () -> states(x));
        due("-", () -> signal(x));
        due(0, () -> x.chosenBy());
        GateCounter y = new GateCounter();
        due(20, () -> y.appendInput(0, 0, 0, 0, 0));
        due(-1, () -> new GateCounter().outputByte(0));
        due(NONE_SUCH, () -> new GateCounter().restoreState());
    }

    private static void promise2() {
        about = "promise 2";
        GateCounter x = new GateCounter();
        for (int i = 1; i <= 24; i++) {
            int length = 20 * i;
            due(length, () -> x.appendInput(0x20202020, 0x20202020, 0x20202020, 0x20202020, 0x20202020));
        }
        x.appendInput(0, 0, 0, 0, 0);
        due(true, () -> x.truncateInput(481));
        due(-1, () -> x.appendInput(0, 0, 0, 0, 0));
        due(false, () -> x.truncateInput(482));
        x.truncateInput(480);
        due(500, () -> x.appendInput(0x636c6f63, 0x6b203132, 0x3b676174, 0x65203738, 0x20202020 + 0x1b000000));
        due(-1, () -> x.appendInput(0, 0, 0, 0, 0));
        due(0, () -> x.loadCounter());
        due("12,0,0,1,78,1,0", () -> settings(x));
        GateCounter y = new GateCounter();
        y.appendInput(0x20202020, 0x80000000, -1, -1, -1);
        due(-1, () -> y.loadCounter());
        due(4, () -> y.errorOffset());
    }

    private static void promise3() {
        about = "promise 3";
        GateCounter x = new GateCounter();
        due(true, () -> x.truncateInput(0));
        due(false, () -> x.truncateInput(1));
        due(false, () -> x.truncateInput(-1));
        append(x, "clock 77;;;");
        due(false, () -> x.truncateInput(12));
        due(true, () -> x.truncateInput(11));
        due(true, () -> x.truncateInput(9));
        due(false, () -> x.truncateInput(10));
        due(29, () -> x.appendInput(0x20202020, 0x20202020, 0x20202020, 0x20202020, 0x20202020));
        due(0, () -> x.loadCounter());
        due(77, () -> x.setting(0));
    }

    private static void promise4() {
        about = "promise 4";
        GateCounter x = counter(SEVEN);
        append(x, "clock 25 drift - 3\nage\n-1;prescale 16;periods 999;gate 9999;signal 0 9999;signal 999999 0;");
        x.choose();
        x.set(6, 5);
        x.set(5, 1);
        x.gate();
        x.period();
        x.saveState();
        int printed = x.printSettings();
        due(2, () -> x.loadCounter());
        due("10,0,0,1,5,1,5", () -> text(x, printed));
        due("25,-3,-1,16,9999,999,0", () -> settings(x));
        due("0 0 0 0 2 0 0 0 0 ", () -> numbers(x));
        due("25 0 0 -1 0 0 ", () -> states(x));
        due("0/9999 999999/0", () -> signal(x));
        due(1, () -> x.chosenBy());
        due(NONE_SUCH, () -> x.undo());
        due(NONE_SUCH, () -> x.restoreState());
        due(-1, () -> x.loadCounter());
        due(1, () -> x.errorCode());
        // An error changes neither what is held nor what can be undone or restored.
        x.run(3);
        x.saveState();
        append(x, "clock 99; signal 5 5; signal 5 5;");
        due(-1, () -> x.loadCounter());
        due("25,-3,-1,16,9999,999,0", () -> settings(x));
        due("3 0 0 0 2 1 0 0 1 ", () -> numbers(x));
        due(true, () -> x.truncateInput(0));
        due(false, () -> x.truncateInput(1));
        due(0, () -> x.undo());
        due(3, () -> x.restoreState());
        // What was told once in a text may be told in the next one.
        for (int i = 0; i < 2; i++) {
            append(x, "clock 10; prescale 2; gate 3; periods 4; signal 5 6;");
            due(1, () -> x.loadCounter());
        }
        // A refusal's reasons outlast a load.
        GateCounter y = new GateCounter();
        y.choose();
        y.set(4, 9999);
        y.set(5, 5);
        y.runTo(1950000);
        y.choose();
        append(y, "clock 10;");
        due(0, () -> y.loadCounter());
        due(1, () -> y.reason());
        due(2, () -> y.cause());
    }

    private static void promises5And6() {
        about = "promise 5";
        due(0, () -> new GateCounter().errorCode());
        due(-1, () -> new GateCounter().errorOffset());
        dueError("clock 10;", 0, -1);
        dueError("\n clock\n10 ; \n", 0, -1);
        dueError("clock10drift-99age-1;gate1;signal0 0;", 0, -1);
        dueError("clock 999 drift 99 age 1;", 0, -1);
        dueError("clock 000010;", 0, -1);
        dueError("clock 10 drift -0;", 0, -1);
        dueError("clock 10;signal 1 1;signal 2 1;signal 3 1;signal 4 1;signal 5 1;signal 6 1;signal 7 1;signal 8 1;", 0, -1);
        about = "promise 6";
        dueError("", 1, 0);
        dueError("  \n", 1, 3);
        dueError("clock", 1, 5);
        dueError("clock ", 1, 6);
        dueError("clock 10", 1, 8);
        dueError("clock 10 ", 1, 9);
        dueError("clocks 10;", 1, 0);
        dueError("flock 10;", 1, 0);
        dueError("clock 10;date 5;", 1, 9);
        dueError("clock 10;gatez 5;", 1, 9);
        dueError("clock 10;agate 5;", 1, 9);
        dueError("clock 10;signal;", 1, 15);
        dueError(" Clock 10;", 1, 1);
        dueError("clock\t10;", 1, 5);
        dueError("clock -10;", 1, 6);
        dueError("clock 9;", 2, 6);
        dueError("clock 1000;", 2, 6);
        dueError("clock 0000010;", 1, 6);
        dueError("clock 9", 2, 6);
        dueError("clock 10;;", 1, 9);
        dueError("clock 10;clock 10;", 1, 9);
        dueError("gate 10;clock 10;", 1, 0);
        dueError("clock 10 age 1 drift 1;", 1, 15);
        dueError("clock 10 drift;", 1, 14);
        dueError("clock 10 drift --1;", 1, 16);
        dueError("clock 10 drift 100;", 2, 15);
        dueError("clock 10 drift - 100;", 2, 17);
        dueError("clock 10 age 2;", 2, 13);
        dueError("clock 10 age -2;", 2, 14);
        dueError("clock 10; drift 5;", 1, 10);
        dueError("clock 10;\u00e4", 1, 9);
        dueError("clock 10;prescale 3;", 2, 18);
        dueError("clock 10;prescale 0;", 2, 18);
        dueError("clock 10;prescale 32;", 2, 18);
        dueError("clock 10;prescale ;", 1, 18);
        dueError("clock 10;gate 0;", 2, 14);
        dueError("clock 10;gate 10000;", 2, 14);
        dueError("clock 10;gate 1000000;", 1, 14);
        dueError("clock 10;gate 1 2;", 1, 16);
        dueError("clock 10;periods 0;", 2, 17);
        dueError("clock 10;periods 1000;", 2, 17);
        dueError("clock 10;periods 1;periods", 3, 19);
        dueError("clock 10;prescale 1;prescale 3;", 3, 20);
        dueError("clock 10;gate 1;periods 2;gate 0;", 3, 26);
        dueError("clock 10;signal 5;", 1, 17);
        dueError("clock 10;signal 0 10000;", 2, 18);
        dueError("clock 10;signal -1 0;", 1, 16);
        dueError("clock 10;signal 1000000 0;", 1, 16);
        dueError("clock 10;signal 5 1;signal 5 1;", 4, 27);
        dueError("clock 10;signal 5 1;signal 4 10000;", 4, 27);
        dueError("clock 10;signal 0 1;signal 0 1;", 4, 27);
        dueError("clock 10;signal 1 1;signal 2 1;signal 3 1;signal 4 1;signal 5 1;signal 6 1;signal 7 1;signal 8 1;signal 1", 5, 97);
        GateCounter x = new GateCounter();
        append(x, "clock 9;");
        x.loadCounter();
        append(x, "clock 10;");
        due(2, () -> x.errorCode());
        x.loadCounter();
        due(0, () -> x.errorCode());
        due(-1, () -> x.errorOffset());
    }

    private static void lookingPromises() {
        promise7();
        promise8();
        promise9();
        promise10();
        promise11();
        promise12();
        promise13();
        promise14();
        promise15();
    }

    private static void promise7() {
        about = "promise 7";
        GateCounter x = counter("clock 10; prescale 2; signal 4 7; signal 500 3; gate 5;");
        x.gate();
        x.run(10);
        // Up to 70: edges at 11, 18, 25, 32, 39, 46, 53, 60, 67.
        due("70 7 9 4 2 1 1 1 2 ", () -> numbers(x));
        x.drop(0);
        due("70 7 9 4 2 1 1 0 3 ", () -> numbers(x));
        due(ILLEGAL, () -> x.count(-1));
        due(ILLEGAL, () -> x.count(9));
    }

    private static void promise8() {
        about = "promise 8";
        GateCounter x = counter("clock 123 drift 45 age -1; prescale 8; gate 67; periods 89;");
        x.set(6, -12);
        int[] want = {123, 45, -1, 8, 67, 89, -12};
        for (int what = 0; what <= 6; what++) {
            int which = what;
            due(want[what], () -> x.setting(which));
        }
        due(ILLEGAL, () -> x.setting(-1));
        due(ILLEGAL, () -> x.setting(7));
        // DRIFT grows by AGE with the 100th clock edge; it stays within -99 and 99.
        GateCounter y = counter("clock 10 drift -98 age -1;");
        // The 100th one comes at 1000 less 10, as 99 steps carry floor(-98 * 99 / 1000).
        y.runTo(989);
        due(-98, () -> y.setting(1));
        y.runTo(990);
        due(-99, () -> y.setting(1));
        y.runTo(10000);
        due(-99, () -> y.setting(1));
        GateCounter z = counter("clock 10 drift 98 age 1;");
        z.runTo(10000);
        due(99, () -> z.setting(1));
    }

    private static void promise9() {
        about = "promise 9";
        GateCounter x = counter("clock 10 drift -99; prescale 4; signal 5 6; signal 100 0;");
        due("10 0 0 -1 0 5 ", () -> states(x));
        // The step behind the first clock edge is 10 + floor(-99 / 1000) = 9, and REST is 901.
        x.runTo(10);
        due("19 901 6 11 0 100 ", () -> states(x));
        // Behind the second: 901 - 99 = 802, so the step is 10. The edge at 17 is the second one.
        x.runTo(19);
        due("29 802 6 23 2 100 ", () -> states(x));
        x.runTo(100);
        due("-1 3 -1", () -> x.state(3) + " " + x.state(4) + " " + x.state(5));
        due(0, () -> x.state(2));
        due(ILLEGAL, () -> x.state(-1));
        due(ILLEGAL, () -> x.state(6));
        // With a drift above 0 the carry lengthens a step.
        GateCounter y = counter("clock 10 drift 99;");
        y.runTo(100);
        due("110 990", () -> y.state(0) + " " + y.state(1));
        y.runTo(110);
        due("121 89", () -> y.state(0) + " " + y.state(1));
        // A segment comes ahead of an edge at its time, and drops it; its own edges come a PERIOD later.
        GateCounter z = counter("clock 10; signal 0 5; signal 10 7;");
        z.runTo(10);
        due("17 1", () -> z.state(3) + " " + z.count(2));
        // AGE counts ahead of the step behind the 100th clock edge.
        GateCounter w = counter("clock 10 age 1;");
        w.runTo(1000);
        due("1010 1", () -> w.state(0) + " " + w.state(1));
    }

    private static void promise10() {
        about = "promise 10";
        GateCounter x = counter("clock 10; signal 3 4; signal 50 60;");
        due(3, () -> x.segment(0, 0));
        due(4, () -> x.segment(0, 1));
        due(50, () -> x.segment(1, 0));
        due(60, () -> x.segment(1, 1));
        due(BOUNDS, () -> x.segment(2, 0));
        due(BOUNDS, () -> x.segment(-1, 9));
        due(ILLEGAL, () -> x.segment(0, 2));
        due(ILLEGAL, () -> x.segment(1, -1));
        due(BOUNDS, () -> new GateCounter().segment(0, 0));
    }

    private static void promise11() {
        about = "promise 11";
        GateCounter x = counter(SEVEN);
        x.gate();
        x.set(6, 10);
        x.period();
        due("0 10 60 7 140000 1 5 0 ", () -> measured(x, 0));
        // Begins at the edge of 60, which is still to come then; ends at 81; 3e9 / (2 * 10 * 1010).
        due("1 60 81 2 148514 1 3 10 ", () -> measured(x, 1));
        due(BOUNDS, () -> x.measurement(2, 0));
        due(BOUNDS, () -> x.measurement(-1, 9));
        due(ILLEGAL, () -> x.measurement(0, 8));
        due(ILLEGAL, () -> x.measurement(0, -1));
        // The latest 20 are kept.
        x.set(4, 1);
        for (int i = 0; i < 20; i++) {
            x.gate();
        }
        due("20 22", () -> x.count(7) + " " + x.count(6));
        due(90, () -> x.measurement(0, 1));
        due(480, () -> x.measurement(19, 2));
        due(BOUNDS, () -> x.measurement(20, 0));
        // A clock edge comes ahead of an edge: that of the opening's time counts, that of the closing's does not.
        GateCounter y = counter("clock 10; signal 0 10; gate 3; periods 3;");
        y.gate();
        due("0 10 40 3 100000 1 3 0 ", () -> measured(y, 0));
        due(3, () -> y.count(2));
        y.undo();
        y.period();
        due("1 10 40 3 100000 1 3 0 ", () -> measured(y, 0));
        due(4, () -> y.count(2));
    }

    private static void promise12() {
        about = "promise 12";
        GateCounter x = new GateCounter();
        due(0, () -> x.reason());
        x.waitOutput();
        due(2, () -> x.reason());
        due(ILLEGAL, () -> x.calibrate(0));
        x.run(9);
        x.byPeriod(0);
        x.undo();
        due(2, () -> x.reason());
        x.calibrate(9);
        due(4, () -> x.reason());
        x.calibrate(10);
        due(0, () -> x.reason());
        x.period();
        due(2, () -> x.reason());
        x.gate();
        due(0, () -> x.reason());
        x.addSegment(200, 1);
        x.period();
        due(3, () -> x.reason());
        x.waitOutput();
        due(0, () -> x.reason());
        x.set(5, 10);
        x.runTo(1999999);
        x.gate();
        due(1, () -> x.reason());
        x.period();
        due(1, () -> x.reason());
        x.undo();
        x.period();
        due(0, () -> x.reason());
    }

    private static void promise13() {
        about = "promise 13";
        GateCounter x = new GateCounter();
        due(0, () -> x.cause());
        x.set(4, 9999);
        x.runTo(1950000);
        x.choose();
        due("1 2", () -> x.reason() + " " + x.cause());
        x.period();
        due("2 0", () -> x.reason() + " " + x.cause());
        x.choose();
        x.gate();
        due("1 0", () -> x.reason() + " " + x.cause());
        x.choose();
        x.waitOutput();
        due(0, () -> x.cause());
        x.choose();
        x.calibrate(1);
        due(0, () -> x.cause());
        x.addSegment(1950010, 1);
        x.choose();
        due("1 3", () -> x.reason() + " " + x.cause());
        x.calibrate(100);
        due("0 0", () -> x.reason() + " " + x.cause());
        x.undo();
        x.choose();
        x.set(5, 999);
        due("1 3", () -> x.reason() + " " + x.cause());
        x.choose();
        due("0 0", () -> x.reason() + " " + x.cause());
    }

    private static void promise14() {
        about = "promise 14";
        GateCounter x = counter(SEVEN);
        due(0, () -> x.chosenBy());
        x.choose();
        due(1, () -> x.chosenBy());
        x.set(5, 12);
        x.choose();
        // From 60 on: by gate from 70 to 120 the edges 74, 81, 88, 95, 102, 109, 116; by period from 60 to 144 the clock edges 70 to 140.
        due(2, () -> x.chosenBy());
        x.undo();
        due(2, () -> x.chosenBy());
        x.set(5, 10);
        x.choose();
        due(3, () -> x.chosenBy());
        x.gate();
        x.period();
        due(3, () -> x.chosenBy());
        x.addSegment(x.count(0) + 1, 0);
        x.choose();
        due(4, () -> x.chosenBy());
        GateCounter y = counter("clock 10; signal 1999 10; gate 9999;");
        y.runTo(1950000);
        y.choose();
        due(5, () -> y.chosenBy());
        y.runTo(2000000);
        y.choose();
        due(0, () -> y.chosenBy());
        y.period();
        due(0, () -> y.chosenBy());
    }

    private static void promise15() {
        about = "promise 15";
        GateCounter x = counter("clock 10; prescale 4; signal 0 3;");
        due(true, () -> x.addsUp());
        x.run(100);
        due(true, () -> x.addsUp());
        x.setPrescale(8);
        due(true, () -> x.addsUp());
        x.run(10);
        due(true, () -> x.addsUp());
        x.undo();
        x.undo();
        x.run(5);
        due(true, () -> x.addsUp());
        due("35 8 3", () -> x.count(2) + " " + x.count(3) + " " + x.state(4));
    }

    private static void forecastPromises() {
        promises16To21();
        promises22To25();
        promises26And27();
        promises28To31();
    }

    private static void promises16To21() {
        GateCounter x = counter("clock 10 drift 50 age 1; prescale 2; signal 4 7; signal 30 0; signal 100 1;");
        // Edges at 11, 18, 25, and from 101 on at each tick.
        about = "promise 16";
        due(0, () -> x.edgesIn(0));
        due(0, () -> x.edgesIn(10));
        due(1, () -> x.edgesIn(11));
        due(3, () -> x.edgesIn(100));
        due(4, () -> x.edgesIn(101));
        due(99903, () -> x.edgesIn(100000));
        due(ILLEGAL, () -> x.edgesIn(-1));
        due(ILLEGAL, () -> x.edgesIn(100001));
        about = "promise 17";
        due(0, () -> x.outputsIn(0));
        due(0, () -> x.outputsIn(17));
        due(1, () -> x.outputsIn(18));
        due(1, () -> x.outputsIn(100));
        due(2, () -> x.outputsIn(101));
        due(2, () -> x.outputsIn(102));
        due(ILLEGAL, () -> x.outputsIn(-1));
        due(ILLEGAL, () -> x.outputsIn(100001));
        about = "promise 18";
        due(0, () -> x.clocksIn(0));
        due(0, () -> x.clocksIn(9));
        due(1, () -> x.clocksIn(10));
        // The 20th step is 11 ticks: the 21st clock edge comes at 211.
        due(20, () -> x.clocksIn(210));
        due(21, () -> x.clocksIn(211));
        due(ILLEGAL, () -> x.clocksIn(-1));
        due(ILLEGAL, () -> x.clocksIn(100001));
        about = "promise 19";
        // The 100th clock edge comes at 1000 and 4 carried ticks.
        due(50, () -> x.driftIn(0));
        due(50, () -> x.driftIn(1003));
        due(51, () -> x.driftIn(1004));
        due(ILLEGAL, () -> x.driftIn(-1));
        due(ILLEGAL, () -> x.driftIn(100001));
        about = "promise 20";
        due(18, () -> x.nextOutput());
        about = "promise 21";
        due(4, () -> x.changesIn());
        due("0 0 0 0 3 0 0 0 0 ", () -> numbers(x));
        x.runTo(20);
        due(10, () -> x.changesIn());
        about = "promise 20";
        due(101, () -> x.nextOutput());
        x.dropSegment();
        due(-1, () -> x.nextOutput());
        x.runTo(31);
        about = "promise 21";
        due(-1, () -> x.changesIn());
        due(0, () -> counter("clock 10; signal 0 1;").changesIn());
        about = "promise 16";
        // Edges of the time of now that are still to come count; forecasts may go beyond 2000000.
        GateCounter y = counter("clock 10; signal 0 10; gate 1; prescale 1;");
        y.gate();
        due("20 20", () -> y.count(0) + " " + y.state(3));
        due("1 1", () -> y.edgesIn(0) + " " + y.outputsIn(0));
        due(20, () -> y.nextOutput());
        y.runTo(2000000);
        due("10 10 10 0", () -> y.edgesIn(100) + " " + y.outputsIn(100) + " " + y.clocksIn(100) + " " + y.driftIn(100));
        due(-1, () -> y.nextOutput());
        about = "promise 20";
        GateCounter z = counter("clock 10; signal 0 10;");
        z.runTo(1999990);
        due(2000000, () -> z.nextOutput());
        z.runTo(2000000);
        due(-1, () -> z.nextOutput());
    }

    private static void promises22To25() {
        about = "promise 22";
        GateCounter x = counter("clock 10; signal 4 7; signal 30 0; signal 100 1;");
        due(11, () -> x.timeOfEdge(1));
        due(25, () -> x.timeOfEdge(3));
        due(101, () -> x.timeOfEdge(4));
        due(1097, () -> x.timeOfEdge(1000));
        due(ILLEGAL, () -> x.timeOfEdge(0));
        due(ILLEGAL, () -> x.timeOfEdge(1001));
        x.runTo(12);
        due(18, () -> x.timeOfEdge(1));
        x.runTo(1999990);
        due(2000000, () -> x.timeOfEdge(10));
        due(-1, () -> x.timeOfEdge(11));
        due(-1, () -> new GateCounter().timeOfEdge(1));
        // An edge at a segment's time is dropped.
        due(17, () -> counter("clock 10; signal 0 5; signal 10 7;").timeOfEdge(2));
        due(10, () -> counter("clock 10; signal 0 5; signal 11 7;").timeOfEdge(2));
        due(18, () -> counter("clock 10; signal 0 5; signal 11 7;").timeOfEdge(3));
        about = "promise 23";
        due(2000000, () -> x.timeOfClock(1));
        due(-1, () -> x.timeOfClock(2));
        GateCounter y = counter("clock 10 drift -99 age -1;");
        due(10, () -> y.timeOfClock(1));
        due(19, () -> y.timeOfClock(2));
        due(29, () -> y.timeOfClock(3));
        // 999 steps: 9990 + floor(-99 * 999 / 1000).
        due(9901, () -> y.timeOfClock(1000));
        // A sum of 999 carries nothing yet: 37 steps of 27.
        due(380, () -> counter("clock 10 drift 27;").timeOfClock(38));
        due(391, () -> counter("clock 10 drift 27;").timeOfClock(39));
        due(ILLEGAL, () -> y.timeOfClock(0));
        due(ILLEGAL, () -> y.timeOfClock(1001));
        about = "promise 24";
        // Steps of 9, 10, 10 and so on: a 9 comes once in ten.
        due(0, () -> y.wobble(1));
        due(1, () -> y.wobble(2));
        due(1, () -> y.wobble(1000));
        due(0, () -> counter("clock 10 drift 50;").wobble(19));
        due(1, () -> counter("clock 10 drift 50;").wobble(20));
        due(ILLEGAL, () -> y.wobble(0));
        due(ILLEGAL, () -> y.wobble(1001));
        GateCounter w = new GateCounter();
        w.runTo(1999980);
        due(0, () -> w.wobble(1));
        due(-1, () -> w.wobble(2));
        w.runTo(1999990);
        due(-1, () -> w.wobble(1));
        about = "promise 25";
        GateCounter z = counter("clock 10 drift 5 age 1;");
        z.runTo(300);
        due(0, () -> z.clocksTo(5));
        due(70, () -> z.clocksTo(6));
        due(9370, () -> z.clocksTo(99));
        due(-1, () -> z.clocksTo(4));
        z.set(2, -1);
        due(70, () -> z.clocksTo(4));
        due(-1, () -> z.clocksTo(6));
        due(10370, () -> z.clocksTo(-99));
        z.set(2, 0);
        due(-1, () -> z.clocksTo(4));
        due(-1, () -> z.clocksTo(6));
        due(0, () -> z.clocksTo(5));
        due(ILLEGAL, () -> z.clocksTo(-100));
        due(ILLEGAL, () -> z.clocksTo(100));
    }

    private static void promises26And27() {
        about = "promise 26";
        GateCounter x = counter(SEVEN);
        x.set(6, -50);
        int[] byGate = {0, 10, 60, 7, 147368, 1, 5, -50};
        for (int what = 0; what <= 7; what++) {
            int which = what;
            due(byGate[what], () -> x.byGate(which));
        }
        due(ILLEGAL, () -> x.byGate(-1));
        due(ILLEGAL, () -> x.byGate(8));
        about = "promise 27";
        int[] byPeriod = {1, 11, 32, 2, 157894, 1, 3, -50};
        for (int what = 0; what <= 7; what++) {
            int which = what;
            due(byPeriod[what], () -> x.byPeriod(which));
        }
        due(ILLEGAL, () -> x.byPeriod(-1));
        due(ILLEGAL, () -> x.byPeriod(8));
        due("0 0 0 0 1 0 0 0 1 ", () -> numbers(x));
        due(0, () -> x.reason());
        x.runTo(1999990);
        about = "promise 26";
        // The gate opens with 2000000 and would close above.
        due(-1, () -> x.byGate(0));
        due(ILLEGAL, () -> x.byGate(8));
        about = "promise 27";
        due(-1, () -> x.byPeriod(0));
        due(ILLEGAL, () -> x.byPeriod(8));
        due(0, () -> x.reason());
        // Just in time: closing, or ending, at 2000000.
        GateCounter y = counter("clock 10; signal 0 10; gate 5; periods 5;");
        y.runTo(1999940);
        due("1999950 2000000", () -> y.byGate(1) + " " + y.byGate(2));
        due("1999950 2000000", () -> y.byPeriod(1) + " " + y.byPeriod(2));
        y.runTo(1999950);
        due("-1 -1", () -> y.byGate(2) + " " + y.byPeriod(2));
        // Of P edges one is an output: the 4th, the 8th, the 12th.
        GateCounter z = counter("clock 10; prescale 4; signal 0 5; gate 9; periods 2;");
        // The gate from 10 to 100 holds those of 20, 40, 60 and 80, but not that of 100.
        due("4 177777", () -> z.byGate(3) + " " + z.byGate(4));
        due("20 60 4 200000", () -> z.byPeriod(1) + " " + z.byPeriod(2) + " " + z.byPeriod(3) + " " + z.byPeriod(4));
        // A count of 0 has no digits; a large one has six.
        due("0 0", () -> new GateCounter().byGate(5) + " " + new GateCounter().byGate(4));
        GateCounter w = counter("clock 10; signal 0 1; gate 9999;");
        due("99990 5", () -> w.byGate(3) + " " + w.byGate(5));
        w.set(4, 1);
        due("10 2", () -> w.byGate(3) + " " + w.byGate(5));
    }

    private static void promises28To31() {
        about = "promise 28";
        GateCounter x = counter("clock 10 drift 50; signal 4 7; gate 30; periods 3;");
        due(0, () -> x.trueRate(1));
        due(0, () -> x.trueRate(10));
        due(90909, () -> x.trueRate(11));
        due(100000, () -> x.trueRate(20));
        // (99997 - 4) / 7 = 14285 edges up to 100000.
        due(142850, () -> x.trueRate(100000));
        due(1000000, () -> counter("clock 10; signal 0 1;").trueRate(1));
        due(ILLEGAL, () -> x.trueRate(0));
        due(ILLEGAL, () -> x.trueRate(100001));
        about = "promise 29";
        // Steady: opens at 10, closes at 310: the edges 11 to 305 are 43. As it is, it closes at 311 with the same.
        GateCounter y = counter("clock 10 drift 99 age 1; signal 4 7; gate 50; periods 15;");
        // Steady it closes at 510, with 72 edges up to 508; as it is at 514.
        due("514 72", () -> y.byGate(2) + " " + y.byGate(3));
        y.set(6, 99);
        due(144000, () -> y.idealValue(false));
        // From 11 to 116 the clock edges 20 to 110 are 10: 15e9 / (10 * 10 * 1000).
        due(150000, () -> y.idealValue(true));
        y.runTo(13);
        // From 18 to 123: 20 to 120 are 11 if steady; as it is 20 to 110 and 121 are 11 too.
        due(136363, () -> y.idealValue(true));
        due("10,99,1,1,50,15,99", () -> settings(y));
        y.runTo(1999998);
        due(-1, () -> y.idealValue(false));
        due(-1, () -> y.idealValue(true));
        // A drift below 0 has the gate close early: 4 edges fewer, if it is not steady.
        GateCounter z = counter("clock 10 drift -99; signal 0 1; gate 40;");
        due("396 406 990000", () -> z.byGate(3) + " " + z.byGate(2) + " " + z.byGate(4));
        due(1000000, () -> z.idealValue(false));
        // With AGE 1 alone a gate of 2000 lasts 1000 * (0 + 1 + .. + 19) / 10000 = 19 ticks longer.
        GateCounter u = counter("clock 10 age 1; signal 0 1; gate 2000;");
        due("1000950 1000000", () -> u.byGate(4) + " " + u.idealValue(false));
        about = "promise 30";
        // REST is 0 and no segment has come: from 0 to the edge at 11.
        due(1, () -> x.longestSilence(1));
        due(10, () -> x.longestSilence(10));
        due(11, () -> x.longestSilence(20));
        x.runTo(11);
        due(6, () -> x.longestSilence(6));
        due(7, () -> x.longestSilence(13));
        due(7, () -> x.longestSilence(100000));
        x.runTo(12);
        due(6, () -> x.longestSilence(6));
        due(6, () -> x.longestSilence(12));
        due(7, () -> x.longestSilence(13));
        x.addSegment(20, 0);
        x.addSegment(30, 2);
        // 18 is the last edge ahead of 20; the next one is at 32.
        due(14, () -> x.longestSilence(20));
        due(8, () -> x.longestSilence(14));
        due(14, () -> x.longestSilence(1000));
        due(50, () -> new GateCounter().longestSilence(50));
        // An edge at a segment's time is dropped, one ahead of that is not.
        due(15, () -> counter("clock 10; signal 0 5; signal 10 0;").longestSilence(20));
        due(10, () -> counter("clock 10; signal 0 5; signal 11 0;").longestSilence(20));
        due(ILLEGAL, () -> x.longestSilence(0));
        due(ILLEGAL, () -> x.longestSilence(100001));
        about = "promise 31";
        GateCounter w = counter(SEVEN);
        due(10000, () -> w.apart());
        w.set(5, 7);
        // From 11 to 60 the clock edges 20 to 60: 7e9 / (5 * 10 * 1000).
        due(0, () -> w.apart());
        w.set(5, 2);
        // From 11 to 25 the clock edge 20 alone; the other way round the sign goes.
        due("1 200000 60000", () -> w.byPeriod(3) + " " + w.byPeriod(4) + " " + w.apart());
        // From 11 to 18 there is none.
        w.set(5, 1);
        due(-1, () -> w.apart());
        due(-1, () -> new GateCounter().apart());
        GateCounter v = counter("clock 10; signal 0 10; gate 9;");
        v.runTo(1999950);
        due("-1 100000 -1", () -> v.byGate(4) + " " + v.byPeriod(4) + " " + v.apart());
    }

    private static void findingPromises() {
        promises32To35();
        promise36();
        promise37();
        promise38();
    }

    private static void promises32To35() {
        about = "promise 32";
        GateCounter x = counter(SEVEN);
        due(1, () -> x.gateFor(1));
        // The tenth edge behind 10 is at 74, so it closes with 80.
        due(7, () -> x.gateFor(2));
        // The 100th is at 704, and the 1000th at 7004; the 10000th at 70004.
        due(70, () -> x.gateFor(3));
        due(700, () -> x.gateFor(4));
        due(7000, () -> x.gateFor(5));
        due(-1, () -> x.gateFor(6));
        // From 99981 on at each tick: of the gate's last but one step to 99990 the nine ones to 99989.
        due("9998 9999 -1", () -> {
            GateCounter y = counter("clock 10; signal 99980 1;");
            return y.gateFor(1) + " " + y.gateFor(2) + " " + y.gateFor(3);
        });
        due(ILLEGAL, () -> x.gateFor(0));
        due(ILLEGAL, () -> x.gateFor(7));
        due(-1, () -> new GateCounter().gateFor(1));
        about = "promise 33";
        due(2, () -> x.periodsFor(1));
        // Clock edges from 20 on: the tenth is at 110, so 11 + 15 * 7 = 116 has it.
        due(15, () -> x.periodsFor(2));
        due(143, () -> x.periodsFor(3));
        due(-1, () -> x.periodsFor(4));
        // From 1 to 1000: 100 clock edges.
        due(999, () -> counter("clock 10; signal 0 1;").periodsFor(3));
        due(ILLEGAL, () -> x.periodsFor(0));
        due(ILLEGAL, () -> x.periodsFor(7));
        due(-1, () -> new GateCounter().periodsFor(1));
        // 1001 clock edges, 2997 to 1001997, are between 2000 and 1002000, and 999 ahead of 1000000.
        due(500, () -> counter("clock 999; signal 0 2000;").periodsFor(4));
        due(500, () -> counter("clock 10; signal 0 20;").periodsFor(4));
        about = "promise 34";
        due(9999, () -> x.longestGate());
        about = "promise 35";
        due(999, () -> x.mostPeriods());
        // Nothing that is set matters: only what is still to come.
        x.set(4, 9999);
        x.set(5, 999);
        x.runTo(1999940);
        // Clock edges at 1999950 to 2000000; edges at 1999946, 53, 60, 67, 74, 81, 88 and 95.
        about = "promise 34";
        due(5, () -> x.longestGate());
        about = "promise 35";
        due(7, () -> x.mostPeriods());
        about = "promise 32";
        due("1 -1", () -> x.gateFor(1) + " " + x.gateFor(2));
        about = "promise 33";
        due("1 -1", () -> x.periodsFor(1) + " " + x.periodsFor(2));
        x.runTo(1999981);
        // Clock edges at 1999990 and 2000000; edges at 1999988 and 95.
        about = "promise 34";
        due(1, () -> x.longestGate());
        about = "promise 35";
        due(1, () -> x.mostPeriods());
        about = "promise 33";
        due("1 -1", () -> x.periodsFor(1) + " " + x.periodsFor(2));
        x.runTo(1999990);
        about = "promise 34";
        due(-1, () -> x.longestGate());
        about = "promise 32";
        due(-1, () -> x.gateFor(1));
        about = "promise 35";
        due(-1, () -> x.mostPeriods());
        about = "promise 33";
        due(-1, () -> x.periodsFor(1));
        // One output is not enough, and periods without a clock edge between are too short.
        GateCounter z = counter("clock 999; signal 0 1; prescale 16; signal 900 0;");
        due("56 -1", () -> z.outputsIn(1000) + " " + z.mostPeriods());
        due(-1, () -> z.periodsFor(1));
        about = "promise 35";
        GateCounter w = counter("clock 999; signal 990 9; signal 1017 0;");
        // Edges at 999 and 1008 alone, without a clock edge between.
        due(-1, () -> w.mostPeriods());
        about = "promise 33";
        due(-1, () -> w.periodsFor(1));
        about = "promise 35";
        due(1, () -> counter("clock 999; signal 980 10; signal 1010 0;").mostPeriods());
    }

    private static void promise36() {
        about = "promise 36";
        GateCounter x = counter(SEVEN);
        // By period 150000. By gate 1: the edges 11 and 18, so 200000; 2: 11, 18 and 25, so 150000.
        due(2, () -> x.gateNear(0));
        due(2, () -> x.gateNear(49999));
        due(1, () -> x.gateNear(50000));
        due(1, () -> x.gateNear(2000000));
        due(ILLEGAL, () -> x.gateNear(-1));
        due(ILLEGAL, () -> x.gateNear(2000001));
        due(-1, () -> new GateCounter().gateNear(2000000));
        // Without a clock edge between it is refused.
        x.set(5, 1);
        due(-1, () -> x.gateNear(2000000));
        // By period, from 12 to 27 with 20 alone, 1500000. By gate G 10 * G - 2 edges, which comes near 1000000 from below.
        GateCounter y = counter("clock 10; signal 11 1; periods 15;");
        due(1, () -> y.gateNear(700000));
        due(2, () -> y.gateNear(699999));
        due(9524, () -> y.gateNear(500021));
        due(-1, () -> y.gateNear(500020));
        // CORRECTION counts for both: 1365000 and 727000 or so are nearer.
        y.set(6, 99);
        due(1, () -> y.gateNear(636943));
        due(2, () -> y.gateNear(636941));
        // By period, from 99981 to 99990 with that alone, 900000; by gate with 9998 90, and with 9999 190.
        GateCounter z = counter("clock 10; signal 99980 1; periods 9;");
        due(9999, () -> z.gateNear(899810));
        due(-1, () -> z.gateNear(899809));
        // By period from 67 to 88 150000; by gate 1 74 alone, by gate 2 74, 81 and 88.
        x.set(5, 3);
        x.runTo(60);
        due(2, () -> x.gateNear(0));
        x.set(4, 9999);
        x.runTo(1999990);
        due(-1, () -> x.gateNear(2000000));
    }

    private static void promise37() {
        about = "promise 37";
        // 7 edges within 50 ticks: with 1 140000; with 2 3 * 2; with 4 1 * 4.
        due(1, () -> counter(SEVEN).bestPrescale());
        // All the same: no edges at all.
        due(1, () -> new GateCounter().bestPrescale());
        GateCounter x = counter("clock 10; prescale 2; signal 0 10; gate 1;");
        x.runTo(69);
        // Edges at 70 and on: the gate from 70 to 80 holds the edge of 70 alone, the first one behind now.
        due(1, () -> x.bestPrescale());
        due(2, () -> x.setting(3));
        // The 16 edges of 5 to 20 come; of them 11 to 20 are in the gate of 10 to 20, and that of 20 is not.
        GateCounter y = counter("clock 10; signal 4 1; gate 1;");
        // In it are the edges of 10 to 19, the 6th to the 15th: with 1 10, with 2 5 * 2, with 4 2 * 4, with 8 1 * 8, with 16 none.
        due(1, () -> y.bestPrescale());
        y.runTo(7);
        // Of 8 to 19 the 3rd to the 12th: with 1 10, with 4 the 4th, the 8th and the 12th.
        due(4, () -> y.bestPrescale());
        // The count that there is does not matter: it would be 0.
        y.setPrescale(16);
        y.runTo(8);
        // Of 9 to 19 the 2nd to the 11th: with 1 10, with 2 5 * 2, with 4 2 * 4, with 8 8.
        due(1, () -> y.bestPrescale());
        due(1, () -> y.state(4));
        y.runTo(1999995);
        due(-1, () -> y.bestPrescale());
        GateCounter z = counter("clock 16; signal 0 1; gate 1;");
        // Of 1 to 31 the 16th to the 31st are in the gate: each P has 16, but 16 has one too.
        due(1, () -> z.bestPrescale());
        // The 10th to the 19th: with 1 10, with 16 the 16th.
        due(16, () -> counter("clock 10; signal 0 1; gate 1;").bestPrescale());
        GateCounter w = counter("clock 10; signal 3 1; gate 1;");
        w.runTo(3);
        // Of 4 to 19 the 7th to the 16th are in the gate: with 8 the 8th and the 16th, so 16; with 16 too.
        due(8, () -> w.bestPrescale());
    }

    private static void promise38() {
        about = "promise 38";
        GateCounter x = counter(SEVEN);
        due(0, () -> x.correctionFor(140000));
        due(99, () -> x.correctionFor(0));
        due(99, () -> x.correctionFor(127388));
        due(-99, () -> x.correctionFor(155382));
        due(-99, () -> x.correctionFor(2000000));
        due(98, () -> x.correctionFor(127500));
        due(-98, () -> x.correctionFor(155210));
        // -1 tells 140140, and 0 tells 140000: 140070 is as near to both.
        due(-1, () -> x.correctionFor(140070));
        due(0, () -> x.correctionFor(140069));
        // What is set does not matter; without a count all are the same.
        x.set(6, 33);
        due(0, () -> x.correctionFor(140000));
        due(-99, () -> new GateCounter().correctionFor(5));
        due(ILLEGAL, () -> x.correctionFor(-1));
        due(ILLEGAL, () -> x.correctionFor(2000001));
        x.runTo(1999995);
        due(-100, () -> x.correctionFor(0));
    }

    private static void keptPromises() {
        about = "promise 39";
        GateCounter x = counter(SEVEN);
        x.gate();
        about = "promise 40";
        due(140000.0, () -> x.meanValue());
        about = "promise 41";
        due(140000, () -> x.median());
        about = "promise 43";
        due(0, () -> x.spread());
        about = "promise 44";
        due(0, () -> x.sharpest());
        about = "promise 39";
        x.period();
        x.set(4, 77);
        x.set(5, 88);
        x.set(6, 11);
        due(127388, () -> x.valueWith(0, 99));
        due(140000, () -> x.valueWith(0, 0));
        due(155382, () -> x.valueWith(0, -99));
        due(136487, () -> x.valueWith(1, 99));
        due(150000, () -> x.valueWith(1, 0));
        x.setPrescale(16);
        due(2240000, () -> x.valueWith(0, 0));
        due(2400000, () -> x.valueWith(1, 0));
        due(140000, () -> x.measurement(0, 4));
        due(BOUNDS, () -> x.valueWith(2, 100));
        due(BOUNDS, () -> x.valueWith(-1, 0));
        due(ILLEGAL, () -> x.valueWith(0, 100));
        due(ILLEGAL, () -> x.valueWith(0, -100));
        about = "promise 40";
        due(0.0, () -> new GateCounter().meanValue());
        due(145000.0, () -> x.meanValue());
        about = "promise 41";
        due(-1, () -> new GateCounter().median());
        due(140000, () -> x.median());
        about = "promise 43";
        due(0, () -> new GateCounter().spread());
        due(10000, () -> x.spread());
        about = "promise 44";
        due(-1, () -> new GateCounter().sharpest());
        due(1, () -> x.sharpest());
        // Counts and values behind: by gate of one clock edge, with corrections.
        GateCounter y = counter("clock 10; signal 4 1; gate 2;");
        y.gate();
        y.set(4, 1);
        y.set(6, 50);
        y.gate();
        y.set(6, -60);
        y.gate();
        about = "promise 41";
        due("1000000 952380 1063829", () -> y.measurement(0, 4) + " " + y.measurement(1, 4) + " " + y.measurement(2, 4));
        due(1000000, () -> y.median());
        about = "promise 40";
        due(3016209.0 / 3.0, () -> y.meanValue());
        about = "promise 43";
        due(111449, () -> y.spread());
        about = "promise 44";
        due(2, () -> y.sharpest());
        y.set(5, 1);
        y.addSegment(y.count(0) + 1, 0);
        y.gate();
        // A count of 0 has no digits.
        due("0 0", () -> y.measurement(3, 3) + " " + y.measurement(3, 5));
        due(2, () -> y.sharpest());
        about = "promise 41";
        due(952380, () -> y.median());
        y.drop(1);
        due(1000000, () -> y.median());
        about = "promise 43";
        due(1063829, () -> y.spread());
        y.drop(0);
        y.drop(0);
        due(0, () -> y.spread());
        due(0, () -> y.median());
        about = "promise 44";
        due(0, () -> y.sharpest());
        // Of the same values the median is one as well.
        GateCounter w = counter("clock 10; signal 0 10; gate 1;");
        for (int i = 0; i < 4; i++) {
            w.gate();
        }
        about = "promise 41";
        due(100000, () -> w.median());
        about = "promise 44";
        due(3, () -> w.sharpest());
        // One edge in a gate of 317, 316 and 315 clock edges: values that are 1 apart, the lesser ones first.
        GateCounter v = counter("clock 10; signal 0 9999; gate 317;");
        v.runTo(9985);
        v.gate();
        v.runTo(19985);
        v.set(4, 316);
        v.gate();
        v.runTo(29985);
        v.set(4, 315);
        v.gate();
        about = "promise 41";
        due("315 316 317", () -> v.measurement(0, 4) + " " + v.measurement(1, 4) + " " + v.measurement(2, 4));
        due(316, () -> v.median());
        about = "promise 42";
        due(0.0f, () -> new GateCounter().tickShare());
        GateCounter u = counter("clock 16; gate 3;");
        u.run(20);
        due(16.0f, () -> u.tickShare());
        u.set(1, 99);
        u.addSegment(1000, 1);
        u.runTo(32);
        u.gate();
        // From 32 on with 99: the eleventh step is 17.
        due("96 16.0", () -> u.count(0) + " " + u.tickShare());
        u.runTo(250);
        due(241.0f / 15.0f, () -> u.tickShare());
        u.undo();
        due(16.0f, () -> u.tickShare());
        GateCounter z = counter("clock 10 drift -99;");
        z.run(9);
        due(0.0f, () -> z.tickShare());
        z.run(21);
        // Clock edges at 10, 19 and 29.
        due(29.0f / 3.0f, () -> z.tickShare());
        z.runTo(1999999);
        due((float) latestClock(z) / (float) z.count(1), () -> z.tickShare());
    }

    /** 200000 steps or so of 9.901 ticks: the latest clock edge is that whose next one is not to come. */
    private static int latestClock(GateCounter x) {
        int edges = x.count(1);
        return 10 + 10 * (edges - 1) + Math.floorDiv(-99 * (edges - 1), 1000);
    }

    private static void changePromises() {
        promises45To47();
        promises48And49();
        promise50();
        promise51();
        promises52And53();
        promises54And55();
        promises56And57();
    }

    private static void promises45To47() {
        about = "promise 45";
        GateCounter x = counter("clock 10; prescale 2; signal 4 7;");
        due(0, () -> x.run(10));
        due(1, () -> x.run(1));
        due("11 1 1 0 1 1 0 0 2 ", () -> numbers(x));
        // 18, 25 and on to 100006.
        due(14285, () -> x.run(100000));
        due(ILLEGAL, () -> x.run(0));
        due(ILLEGAL, () -> x.run(100001));
        due(ILLEGAL, () -> x.run(-5));
        due(3, () -> x.count(8));
        about = "promise 46";
        // Edges from 100013 on to 200008, the 14287th to the 28572nd.
        due(7143, () -> x.runTo(200011));
        due(0, () -> x.runTo(200011));
        due(5, () -> x.count(8));
        due(ILLEGAL, () -> x.runTo(200010));
        due(ILLEGAL, () -> x.runTo(2000001));
        due(ILLEGAL, () -> x.runTo(-1));
        x.runTo(1999990);
        due("1999990 199999", () -> x.count(0) + " " + x.count(1));
        about = "promise 45";
        due(STATE, () -> x.run(11));
        due(ILLEGAL, () -> x.run(100001));
        due(6, () -> x.count(8));
        due(1, () -> x.run(10));
        due(STATE, () -> x.run(1));
        about = "promise 46";
        due(0, () -> x.runTo(2000000));
        due("2000000 200000 285713 142856", () -> x.count(0) + " " + x.count(1) + " " + x.count(2) + " " + x.count(3));
        // What is still to come at the time of now comes with runTo() of no ticks.
        GateCounter y = counter("clock 10; signal 0 10; gate 1;");
        y.gate();
        due("20 1", () -> y.count(0) + " " + y.count(2));
        due(1, () -> y.runTo(20));
        due("20 2", () -> y.count(0) + " " + y.count(2));
        due(0, () -> y.runTo(20));
        y.undo();
        y.undo();
        due(1, () -> y.edgesIn(0));
        due(2, () -> y.run(10));
        // So does a segment of the time 0.
        GateCounter z = counter("clock 10; signal 0 3;");
        due("0 0", () -> z.count(5) + " " + z.state(2));
        due(0, () -> z.runTo(0));
        due("1 3", () -> z.count(5) + " " + z.state(2));
        about = "promise 47";
        GateCounter w = counter("clock 10; prescale 2; signal 4 7; signal 60 0;");
        due(18, () -> w.waitOutput());
        due("18 1 2 1 2 1 0 0 1 ", () -> numbers(w));
        due(32, () -> w.waitOutput());
        due(46, () -> w.waitOutput());
        // The edge at 60 is dropped; that of 53 is none of the outputs.
        due(-1, () -> w.waitOutput());
        due("46 3 2 0", () -> w.count(0) + " " + w.count(8) + " " + w.reason() + " " + w.cause());
        w.addSegment(1999990, 5);
        due("1999995", () -> w.waitOutput());
        due(-1, () -> w.waitOutput());
        due("1999995 1", () -> w.count(0) + " " + w.reason());
        due(5, () -> w.count(8));
        // The clock edge at an output's time comes ahead of it.
        GateCounter v = counter("clock 10; signal 0 10;");
        due("10 1", () -> v.waitOutput() + " " + v.count(1));
        due(0, () -> v.reason());
        due(2000000, () -> {
            v.runTo(1999991);
            return v.waitOutput();
        });
    }

    private static void promises48And49() {
        about = "promise 48";
        GateCounter x = counter(SEVEN);
        due(140000, () -> x.gate());
        due("60 6 7 7 1 1 1 1 1 ", () -> numbers(x));
        due("70 0 7 60 0 -1 ", () -> states(x));
        due("0 10 60 7 140000 1 5 0 ", () -> measured(x, 0));
        about = "promise 49";
        due(150000, () -> x.period());
        due("81 8 11 11 1 1 2 2 2 ", () -> numbers(x));
        due("1 60 81 2 150000 1 3 0 ", () -> measured(x, 1));
        about = "promise 48";
        // A segment at the closing's time comes with it, ahead of the clock edge.
        due(2, () -> counter("clock 10; signal 0 5; signal 11 0;").run(100));
        due(1, () -> counter("clock 10; signal 0 5; signal 10 0;").run(100));
        GateCounter y = counter("clock 10; signal 0 5; signal 20 3; gate 1;");
        due(200000, () -> y.gate());
        due("2 23 3", () -> y.count(5) + " " + y.state(3) + " " + y.count(2));
        // Late: refused, and nothing changes.
        GateCounter z = counter("clock 10; signal 0 10; gate 5; periods 5;");
        z.runTo(1999940);
        due(100000, () -> z.gate());
        z.undo();
        about = "promise 49";
        due(100000, () -> z.period());
        z.undo();
        z.runTo(1999950);
        String before = numbers(z) + states(z);
        due(-1, () -> z.period());
        due(1, () -> z.reason());
        about = "promise 48";
        due(-1, () -> z.gate());
        due(1, () -> z.reason());
        due(before, () -> numbers(z) + states(z));
        // No clock edge comes up to 2000000: late as well.
        GateCounter u = new GateCounter();
        u.runTo(1999991);
        u.runTo(2000000);
        due("-1 1", () -> u.gate() + " " + u.reason());
        about = "promise 49";
        // Silent: by what PERIOD is at the end of all.
        z.addSegment(1999999, 0);
        due("-1 2", () -> z.period() + " " + z.reason());
        z.set(5, 4);
        due("-1 2", () -> z.period() + " " + z.reason());
        z.set(5, 3);
        due("100000 0", () -> z.period() + " " + z.reason());
        GateCounter w = counter("clock 10; signal 11 0; signal 999999 9999; periods 999;");
        due("-1 1", () -> w.period() + " " + w.reason());
        GateCounter v = counter("clock 10; signal 11 2; periods 3;");
        // The outputs of 13 to 19 have no clock edge between.
        due("-1 3", () -> v.period() + " " + v.reason());
        v.set(5, 4);
        due("400000 1", () -> v.period() + " " + v.count(6));
        due(-1, () -> new GateCounter().period());
        // With a clock that ages on the way: 99 steps of -99 and 51 of -98 carry floor(-14.799), one more leaves 103.
        GateCounter a = counter("clock 10 drift -99 age 1; gate 150; signal 0 1;");
        about = "promise 48";
        due(990000, () -> a.gate());
        due("1495 151 1494 103", () -> a.count(0) + " " + a.count(1) + " " + a.count(2) + " " + a.state(1));
    }

    private static void promise50() {
        about = "promise 50";
        GateCounter x = counter(SEVEN);
        due(140000, () -> x.choose());
        due("60 1 1 0", () -> x.count(0) + " " + x.chosenBy() + " " + x.count(8) + " " + x.measurement(0, 0));
        x.undo();
        // By period with 12 from 11 to 95: 20 to 90 are 8.
        x.set(5, 12);
        due(150000, () -> x.choose());
        due("95 2 2 1", () -> x.count(0) + " " + x.chosenBy() + " " + x.count(8) + " " + x.measurement(0, 0));
        x.undo();
        // With 9 from 11 to 74: 20 to 70 are 6, one less than by gate.
        x.set(5, 9);
        due("140000 1 60", () -> x.choose() + " " + x.chosenBy() + " " + x.count(0));
        x.undo();
        // With 10 from 11 to 81: 20 to 80 are 7, as many as by gate.
        x.set(5, 10);
        due("140000 3 60", () -> x.choose() + " " + x.chosenBy() + " " + x.count(0));
        x.undo();
        x.addSegment(80, 0);
        due("140000 4 60", () -> x.choose() + " " + x.chosenBy() + " " + x.count(0));
        due(0, () -> x.reason());
        GateCounter y = counter("clock 10; signal 0 10; gate 9999;");
        y.runTo(1999950);
        due("100000 5 1999970", () -> y.choose() + " " + y.chosenBy() + " " + y.count(0));
        y.runTo(1999990);
        String before = numbers(y) + states(y);
        due("-1 0 1 1", () -> y.choose() + " " + y.chosenBy() + " " + y.reason() + " " + y.cause());
        due(before, () -> numbers(y) + states(y));
    }

    private static void promise51() {
        about = "promise 51";
        GateCounter x = counter("clock 100 drift 50; signal 0 3;");
        // 9999 ticks hold 99 clock edges: 9999000 / 9900 = 1010.
        due(109, () -> x.calibrate(9999));
        due("9999 10 0 1 3333", () -> x.count(0) + " " + x.setting(6) + " " + x.reason() + " " + x.count(8) + " " + x.count(2));
        due("-1 4", () -> x.calibrate(4) + " " + x.reason());
        due("9999 10", () -> x.count(0) + " " + x.setting(6));
        // One clock edge within 5 ticks: 5000 / 100 less 1000 is below -99; within 109 ticks it is 90 above.
        due(0, () -> x.calibrate(5));
        due(-99, () -> x.setting(6));
        due(99 + 90, () -> counter("clock 100;").calibrate(109));
        due(198, () -> counter("clock 100;").calibrate(199));
        // 151 ticks hold 15 clock edges of 10: 151000 / 150 rounded down is 1006.
        due(105, () -> new GateCounter().calibrate(151));
        due(ILLEGAL, () -> x.calibrate(0));
        due(ILLEGAL, () -> x.calibrate(100001));
        due(4, () -> {
            x.undo();
            x.calibrate(4);
            return x.reason();
        });
        due(10, () -> x.setting(6));
        x.runTo(1999900);
        due("-1 1", () -> x.calibrate(101) + " " + x.reason());
        due("1999900 2", () -> x.count(0) + " " + x.count(8));
        due(true, () -> x.calibrate(100) >= 0);
        due(2000000, () -> x.count(0));
        // Late comes ahead of a clock that does not come.
        due("-1 1", () -> x.calibrate(1) + " " + x.reason());
        due(99, () -> new GateCounter().calibrate(100000));
    }

    private static void promises52And53() {
        about = "promise 52";
        GateCounter x = counter("clock 10; prescale 8; signal 0 1;");
        x.runTo(5);
        due("5 0", () -> x.state(4) + " " + x.count(3));
        due(8, () -> x.setPrescale(8));
        due("0 5", () -> x.state(4) + " " + x.count(2));
        x.runTo(12);
        due("7 0", () -> x.state(4) + " " + x.count(3));
        due(8, () -> x.setPrescale(1));
        due(1, () -> x.setPrescale(2));
        due(2, () -> x.setPrescale(4));
        due(4, () -> x.setPrescale(16));
        due(16, () -> x.setting(3));
        due(7, () -> x.count(8));
        int[] wrong = {0, -1, 3, 5, 6, 12, 15, 17, 32, Integer.MIN_VALUE, Integer.MAX_VALUE};
        for (int p : wrong) {
            due(ILLEGAL, () -> x.setPrescale(p));
        }
        due(7, () -> x.count(8));
        about = "promise 53";
        int[] whats = {1, 2, 4, 5, 6};
        int[] least = {-99, -1, 1, 1, -99};
        int[] most = {99, 1, 9999, 999, 99};
        int[] first = {0, 0, 10, 1, 0};
        for (int i = 0; i < 5; i++) {
            GateCounter y = new GateCounter();
            int what = whats[i];
            int low = least[i];
            int high = most[i];
            due(first[i], () -> y.set(what, low));
            due(low, () -> y.set(what, high));
            due(high, () -> y.setting(what));
            due(ILLEGAL, () -> y.set(what, low - 1));
            due(ILLEGAL, () -> y.set(what, high + 1));
            due(high, () -> y.setting(what));
            due(2, () -> y.count(8));
            // The same value is a change as well.
            due(high, () -> y.set(what, high));
            due(3, () -> y.count(8));
        }
        int[] others = {-1, 0, 3, 7};
        for (int what : others) {
            due(ILLEGAL, () -> x.set(what, 1));
        }
        // The time of the next clock edge stays, and REST too.
        GateCounter z = counter("clock 10 drift 60;");
        z.runTo(15);
        z.set(1, -90);
        due("20 60", () -> z.state(0) + " " + z.state(1));
        z.runTo(20);
        due("29 970", () -> z.state(0) + " " + z.state(1));
    }

    private static void promises54And55() {
        about = "promise 54";
        GateCounter x = counter("clock 10; signal 5 3;");
        due(ILLEGAL, () -> x.addSegment(5, 1));
        due(ILLEGAL, () -> x.addSegment(0, 1));
        due(1, () -> x.addSegment(6, 0));
        x.runTo(50);
        due(ILLEGAL, () -> x.addSegment(50, 1));
        due(ILLEGAL, () -> x.addSegment(51, -1));
        due(ILLEGAL, () -> x.addSegment(51, 10000));
        due(ILLEGAL, () -> x.addSegment(2000000, 1));
        due(2, () -> x.addSegment(51, 9999));
        due("5/3* 6/0* 51/9999", () -> signal(x));
        due(3, () -> x.count(8));
        x.addSegment(52, 1);
        x.addSegment(60, 1);
        x.addSegment(61, 1);
        due(6, () -> x.addSegment(62, 1));
        due(7, () -> x.addSegment(1999999, 1));
        due(ILLEGAL, () -> x.addSegment(70, 1));
        due(8, () -> x.count(4));
        x.dropSegment();
        due(7, () -> x.addSegment(1999998, 0));
        due(STATE, () -> x.addSegment(1999999, 1));
        due(ILLEGAL, () -> x.addSegment(1999999, 10000));
        due(8, () -> x.count(4));
        about = "promise 55";
        due(7, () -> x.dropSegment());
        due(6, () -> x.dropSegment());
        x.runTo(60);
        due(5, () -> x.dropSegment());
        due(STATE, () -> x.dropSegment());
        due("5/3* 6/0* 51/9999* 52/1* 60/1*", () -> signal(x));
        due(STATE, () -> new GateCounter().dropSegment());
        due(-1, () -> x.state(5));
        // One that is dropped does not come.
        GateCounter y = counter("clock 10; signal 0 10; signal 15 1;");
        y.runTo(14);
        due(1, () -> y.dropSegment());
        due(2, () -> y.count(8));
        due(1, () -> y.run(10));
        // A segment of the time of now that is still to come can be dropped.
        GateCounter z = counter("clock 10; signal 0 10;");
        due(0, () -> z.dropSegment());
        due(0, () -> z.edgesIn(100));
    }

    private static void promises56And57() {
        about = "promise 56";
        GateCounter x = counter(SEVEN);
        x.gate();
        x.period();
        x.gate();
        due("10 60 90", () -> x.measurement(0, 1) + " " + x.measurement(1, 1) + " " + x.measurement(2, 1));
        due(BOUNDS, () -> x.drop(3));
        due(BOUNDS, () -> x.drop(-1));
        due(3, () -> x.count(8));
        due(2, () -> x.drop(1));
        due("10 90", () -> x.measurement(0, 1) + " " + x.measurement(1, 1));
        due("3 2", () -> x.count(6) + " " + x.count(7));
        due(1, () -> x.drop(0));
        due(90, () -> x.measurement(0, 1));
        due(0, () -> x.drop(0));
        due(BOUNDS, () -> x.drop(0));
        due(6, () -> x.count(8));
        about = "promise 57";
        due(5, () -> x.undo());
        due(4, () -> x.undo());
        due(3, () -> x.undo());
        due("10 60 90", () -> x.measurement(0, 1) + " " + x.measurement(1, 1) + " " + x.measurement(2, 1));
        due(2, () -> x.undo());
        due(1, () -> x.undo());
        due(0, () -> x.undo());
        due("0 0 0 0 1 0 0 0 0 ", () -> numbers(x));
        due("10 0 0 -1 0 4 ", () -> states(x));
        due(NONE_SUCH, () -> x.undo());
        due(NONE_SUCH, () -> new GateCounter().undo());
        // At most 8 are kept: the oldest ones go.
        for (int i = 1; i <= 11; i++) {
            x.set(4, 100 + i);
        }
        due(8, () -> x.count(8));
        for (int i = 7; i >= 0; i--) {
            int left = i;
            due(left + " " + (103 + left), () -> x.undo() + " " + x.setting(4));
        }
        due(NONE_SUCH, () -> x.undo());
        due(103, () -> x.setting(4));
        // What is undone is kept no more; each kind of change is undone.
        x.set(1, 7);
        x.undo();
        x.setPrescale(4);
        x.runTo(100);
        x.addSegment(200, 1);
        x.dropSegment();
        x.waitOutput();
        x.calibrate(50);
        x.choose();
        due(7, () -> x.count(8));
        due("6 6", () -> x.undo() + " " + x.count(8));
        x.undo();
        due("0 116", () -> x.setting(6) + " " + x.count(0));
        x.undo();
        due(100, () -> x.count(0));
        x.undo();
        due("4/7* 200/1", () -> signal(x));
        x.undo();
        due("4/7*", () -> signal(x));
        x.undo();
        due("0 4 0", () -> x.count(0) + " " + x.setting(3) + " " + x.count(5));
        x.undo();
        due(1, () -> x.setting(3));
        // The input, the error, the output, the reasons and chosenBy() stay.
        GateCounter y = new GateCounter();
        y.choose();
        y.set(4, 9);
        y.period();
        y.printSettings();
        y.loadCounter();
        append(y, "clock");
        y.undo();
        due("2 4 49 1 0", () -> y.reason() + " " + y.chosenBy() + " " + y.outputByte(0) + " " + y.errorCode() + " " + y.errorOffset());
        due(true, () -> y.truncateInput(5));
    }

    private static void outputAndSavingPromises() {
        promises58To61();
        promises62And63();
    }

    private static void promises58To61() {
        about = "promise 58";
        GateCounter x = counter(SEVEN);
        x.gate();
        x.set(5, 15);
        x.period();
        x.set(4, 1);
        x.addSegment(x.count(0) + 1, 0);
        x.gate();
        due("g7:1xxxxx", () -> text(x, x.printMeasurement(0)));
        due(-1, () -> x.outputByte(9));
        // By period from 60 to 165: the clock edges 70 to 160 are 10; 15e9 / (10 * 10 * 1000).
        due("p10:15xxxx", () -> text(x, x.printMeasurement(1)));
        // The gate from 170 to 180 has nothing: no digits, but one is written.
        due("g0:0", () -> text(x, x.printMeasurement(2)));
        due(BOUNDS, () -> x.printMeasurement(3));
        due(BOUNDS, () -> x.printMeasurement(-1));
        due("g0:0", () -> text(x, 4));
        // More digits than the value has: all are written.
        GateCounter y = counter("clock 999; signal 0 9999; periods 999; gate 1;");
        y.set(5, 1);
        y.period();
        due("p10:10x", () -> text(y, y.printMeasurement(0)));
        y.undo();
        y.set(5, 100);
        y.period();
        // From 9999 to 1009899 the clock edges 10989 to 1008990 are 1000: 100e9 / (1000 * 999 * 1000).
        due("p1000:100", () -> text(y, y.printMeasurement(0)));
        about = "promise 59";
        due("10,0,0,1,10,1,0", () -> settings(new GateCounter()));
        GateCounter z = counter("clock 999 drift -99 age -1; prescale 16; gate 9999; periods 999;");
        z.set(6, -99);
        due(26, () -> z.printSettings());
        due("999,-99,-1,16,9999,999,-99", () -> settings(z));
        about = "promise 60";
        due("-", () -> signal(z));
        GateCounter w = counter("clock 10; signal 4 7; signal 5 0; signal 999999 9999;");
        due("4/7 5/0 999999/9999", () -> signal(w));
        w.runTo(4);
        due("4/7* 5/0 999999/9999", () -> signal(w));
        w.runTo(999999);
        due("4/7* 5/0* 999999/9999*", () -> signal(w));
        due(22, () -> w.printSignal());
        about = "promise 61";
        due(52, () -> w.outputByte(0));
        due(42, () -> w.outputByte(21));
        due(-1, () -> w.outputByte(22));
        due(-1, () -> w.outputByte(-1));
        due(-1, () -> w.outputByte(Integer.MAX_VALUE));
        due(-1, () -> w.outputByte(Integer.MIN_VALUE));
        due(-1, () -> new GateCounter().outputByte(0));
        // The output is written anew, and a shorter one has no more of the longer one.
        due(15, () -> w.printSettings());
        due(-1, () -> w.outputByte(15));
        due("2 0", () -> w.count(8) + " " + w.reason());
    }

    private static void promises62And63() {
        about = "promise 62";
        GateCounter x = counter(SEVEN);
        due(NONE_SUCH, () -> x.restoreState());
        x.gate();
        due(60, () -> x.saveState());
        due(1, () -> x.count(8));
        String all = states(x) + settings(x) + signal(x) + measured(x, 0);
        x.period();
        x.set(1, 5);
        x.set(2, 1);
        x.set(4, 6);
        x.set(5, 7);
        x.set(6, 8);
        x.setPrescale(2);
        x.addSegment(300, 5);
        x.runTo(1000);
        x.drop(0);
        x.choose();
        x.period();
        x.loadCounter();
        append(x, "clock");
        about = "promise 63";
        due(60, () -> x.restoreState());
        due(all, () -> states(x) + settings(x) + signal(x) + measured(x, 0));
        due("60 6 7 7 1 1 1 1 0 ", () -> numbers(x));
        due(true, () -> x.addsUp());
        due(NONE_SUCH, () -> x.undo());
        due("2 1 0", () -> x.chosenBy() + " " + x.errorCode() + " " + x.errorOffset());
        due(true, () -> x.truncateInput(5));
        // It stays saved, whatever is changed or undone behind.
        x.run(10);
        due(60, () -> x.restoreState());
        x.run(10);
        x.undo();
        x.run(7);
        due(60, () -> x.restoreState());
        // A later one takes the place of an earlier one.
        x.run(40);
        about = "promise 62";
        due(100, () -> x.saveState());
        x.undo();
        due(60, () -> x.count(0));
        about = "promise 63";
        due(100, () -> x.restoreState());
        due(100, () -> x.count(0));
        // A load puts what is saved away.
        append(x, "clock 10;");
        x.truncateInput(0);
        append(x, "clock 10;");
        x.loadCounter();
        due(NONE_SUCH, () -> x.restoreState());
        // The reasons stay.
        GateCounter y = new GateCounter();
        y.saveState();
        y.period();
        y.restoreState();
        due(2, () -> y.reason());
    }
}
