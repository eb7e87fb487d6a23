import java.util.NoSuchElementException;

/** Each sentence of the document that names a boundary, by its own words, in the document's order. */
public final class SentencesTest {
    private static final Class<NoSuchElementException> MISSING = NoSuchElementException.class;
    private static final Class<IllegalArgumentException> ARGUMENT = IllegalArgumentException.class;
    private static final Class<IllegalStateException> STATE = IllegalStateException.class;
    private static final Class<UnsupportedOperationException> FULL = UnsupportedOperationException.class;

    private static final int OUT = -1;

    private static final Check CHECK = new Check();

    public static void main(String[] args) {
        terms();
        second();
        scanners();
        edgesAndExpected();
        promises();
        CHECK.end();
    }

    private static void terms() {
        timeIsZeroAtFirst();
        atMostEightBelts();
        lengthAndSpeed();
        runOrStopped();
        twoWaysToNoneAtFirst();
        aBeltThatCameLater();
        atMostSixtyItems();
        itemLengths();
        placesUpToTheLength();
        rearBeforeTheStart();
        firstInFront();
        gapOfOneHundred();
        gapFromZeroToThousand();
        roomIfEmpty();
        roomIfRearIsNoLess();
        roomBehindTheLastItem();
        atTheEndOnly();
        toldWayElseWayZeroElseOut();
        waysAsTheyAreThen();
    }

    private static void second() {
        timeIsOneMore();
        beltsDownward();
        oneBeltInASecond();
        stoppedBeltLetsNothingOut();
        stoppedBeltTakesNothing();
        firstOutThenRoom();
        roomByPassingOn();
        noRoomByMovingYet();
        roomForWhatIsPassedOn();
        onePassesOn();
        runningBeltsPassOn();
        otherWaysDoNotCompete();
        leastByShare();
        comparedExactly();
        equalOnesTheLowest();
        countedByWay();
        notBehindTheEnd();
        notBehindTheRearLessTheGap();
        eachBehindTheNext();
        neverBack();
        theOneThatCameToo();
        nothingMoves();
    }

    private static void scanners() {
        atMostFourScanners();
        scannerPlaces();
        belowBeforeAndNotBelowThen();
        ofItsBelt();
        soManySecondsLater();
        whereverItIs();
        slippedToOrBelowAScanner();
    }

    private static void edgesAndExpected() {
        readBeforeOutAndPassedOn();
        readByTheSecondInWhichItPassed();
        readInTheOrderInWhichItemsMoved();
        ofOneItemByScanners();
        expectedOnlyWhenMoved();
        expectedUpToTheLength();
        expectedAnewOnTheNextBelt();
    }

    private static void promises() {
        waysThatLeadThere();
        wentIsCountedAnew();
        speedZero();
        missingToRoom();
        divertedOnThisBelt();
        stepsFromZeroToHundred();
        edgesFromTheFirstToTheLast();
        slipsToTheStart();
        slipsUpToTheGap();
        slipsFromTheEnd();
        takenFromEachPlace();
        cleanedOnlyIfStopped();
        gapsOfTwoItems();
        gapsByPlacesOnly();
        toldOfItemsOnNoBelt();
        knownOfAnEmptyBelt();
        orderOfWhatWentOut();
        meanDropsRests();
        countOfAnotherWhat();
        manyCalls();
    }

    // TIME is in seconds, 0 at first.
    private static void timeIsZeroAtFirst() {
        BeltRows x = new BeltRows();
        CHECK.is("time at first", x.count(5), 0);
        x.step(0);
        CHECK.is("time after no second", x.count(5), 0);
        x.step(1);
        CHECK.is("time after one", x.count(5), 1);
        x.step(100);
        CHECK.is("time after 101", x.count(5), 101);
    }

    // BELTS 0, 1, .. (at most 8, as they come)
    private static void atMostEightBelts() {
        BeltRows x = new BeltRows();
        for (int belt = 0; belt < 8; belt++) {
            CHECK.fails("belt " + belt + " is not there yet", MISSING, () -> x.known(x.count(0), 0));
            CHECK.fails("a wrong belt takes no number", ARGUMENT, () -> x.belt(0, 0));
            CHECK.is("belt " + belt, x.belt(100 + belt, belt), belt);
            CHECK.is("its length", x.known(belt, 0), 100 + belt);
            CHECK.is("its speed", x.known(belt, 1), belt);
        }
        CHECK.fails("belt 8", FULL, () -> x.belt(1, 0));
        CHECK.fails("belt 8 is not there", MISSING, () -> x.known(8, 0));
        CHECK.is("eight belts", x.count(0), 8);
    }

    // .. have a length 1 .. 10000, a speed 0 .. 1000 (millimetres a second)
    private static void lengthAndSpeed() {
        BeltRows x = Rows.withBelts(1, 0, 10000, 1000);
        CHECK.knownIs(x, 0, 1, 0);
        CHECK.knownIs(x, 1, 10000, 1000);
        x.item(0, 1);
        x.item(1, 1);
        x.step(9);
        CHECK.is("speed 0 goes nowhere", x.told(1, 2), 0);
        CHECK.is("speed 1000, 9 seconds", x.told(2, 2), 9000);
        x.run(0, 1000, true);
        x.run(1, 0, true);
        CHECK.knownIs(x, 0, 1, 1000, 1);
        CHECK.knownIs(x, 1, 10000, 0, 1);
        x.step(1);
        CHECK.is("over length 1 in a second", x.told(1, 2), 1);
        CHECK.is("speed 0 stays", x.told(2, 2), 9000);
        x.run(1, 1, true);
        x.step(1);
        CHECK.is("speed 1", x.told(2, 2), 9001);
    }

    // .. run or are STOPPED
    private static void runOrStopped() {
        BeltRows x = Rows.withBelts(100, 10);
        CHECK.is("a new belt runs", x.known(0, 2), 1);
        x.run(0, 10, true);
        CHECK.is("it still runs", x.known(0, 2), 1);
        x.run(0, 10, false);
        CHECK.is("stopped", x.known(0, 2), 0);
        x.run(0, 20, false);
        CHECK.is("still stopped", x.known(0, 2), 0);
        CHECK.is("with another speed", x.known(0, 1), 20);
    }

    // .. lead to a NEXT belt by each of two WAYS (0 and 1), one that came later, or to none (at first).
    private static void twoWaysToNoneAtFirst() {
        BeltRows x = Rows.withBelts(10, 10, 10, 10, 10, 10);
        for (int belt = 0; belt < 3; belt++) {
            CHECK.is("none by way 0", x.known(belt, 5), -1);
            CHECK.is("none by way 1", x.known(belt, 6), -1);
        }
        CHECK.fails("way -1", ARGUMENT, () -> x.join(0, -1, 1, 1));
        CHECK.fails("way 2", ARGUMENT, () -> x.join(0, 2, 1, 1));
        x.join(0, 1, 2, 1);
        CHECK.is("still none by way 0", x.known(0, 5), -1);
        CHECK.is("belt 2 by way 1", x.known(0, 6), 2);
        x.join(0, 0, 1, 1);
        CHECK.is("belt 1 by way 0", x.known(0, 5), 1);
        CHECK.is("still belt 2 by way 1", x.known(0, 6), 2);
    }

    private static void aBeltThatCameLater() {
        BeltRows x = new BeltRows();
        for (int i = 0; i < 8; i++) {
            x.belt(10, 10);
        }
        for (int from = 0; from < 8; from++) {
            for (int to = 0; to < 8; to++) {
                int a = from;
                int b = to;
                if (to > from) {
                    x.join(a, 0, b, 1);
                    CHECK.is("join " + a + " to " + b, x.known(a, 5), b);
                } else {
                    CHECK.fails("join " + a + " to " + b, ARGUMENT, () -> x.join(a, 0, b, 1));
                }
            }
        }
        CHECK.is("belt 7 leads nowhere", x.known(7, 5), -1);
    }

    // ITEMS 1, 2, .. (at most 60, as they come)
    private static void atMostSixtyItems() {
        BeltRows x = Rows.withBelts(10000, 1000, 10, 0);
        x.gaps(0);
        CHECK.fails("item 0", MISSING, () -> x.told(0, 0));
        for (int item = 1; item <= 60; item++) {
            CHECK.fails("item " + item + " is not there yet", MISSING, () -> x.told(x.count(1) + 1, 0));
            CHECK.is("item " + item, x.item(item == 30 ? 1 : 0, 5), item);
            CHECK.is("so many items", x.count(1), item);
            x.step(1);
        }
        CHECK.is("some are out", x.count(3), 49);
        CHECK.fails("item 61 on a belt with room", FULL, () -> x.item(0, 5));
        CHECK.fails("item 61 on a belt without room", FULL, () -> x.item(1, 5));
        CHECK.fails("item 61 is not there", MISSING, () -> x.told(61, 0));
        CHECK.is("60 items", x.count(1), 60);
        CHECK.is("item 60 is as the others", x.told(60, 2), 1000);
    }

    // .. have a length 1 .. 2000.
    private static void itemLengths() {
        BeltRows x = Rows.withBelts(10, 10, 10, 10);
        CHECK.fails("length 0", ARGUMENT, () -> x.item(0, 0));
        CHECK.fails("length 2001", ARGUMENT, () -> x.item(0, 2001));
        CHECK.is("a refused item takes no number", x.item(0, 1), 1);
        CHECK.is("and one in want of room neither", x.item(0, 1), -101);
        CHECK.is("length 2000", x.item(1, 2000), 2);
        CHECK.is("told length 1", x.told(1, 3), 1);
        CHECK.is("told length 2000", x.told(2, 3), 2000);
    }

    // An item on a belt has a PLACE: that of its front, 0 .. the belt's length
    private static void placesUpToTheLength() {
        BeltRows x = Rows.withBelts(10000, 1000, 10000, 999, 1, 1000, 1000, 100);
        x.join(2, 0, 3, 1);
        x.run(3, 0, false);
        for (int belt = 0; belt < 3; belt++) {
            x.item(belt, 2000);
            CHECK.is("put at 0", x.told(belt + 1, 2), 0);
        }
        x.step(10);
        CHECK.is("just at the length", x.told(1, 2), 10000);
        CHECK.is("not yet there", x.told(2, 2), 9990);
        CHECK.is("at length 1", x.told(3, 2), 1);
        CHECK.is("nothing went on", x.count(4), 0);
        x.step(1);
        CHECK.is("the length and no more", x.told(2, 2), 10000);
    }

    // its REAR is its place less its length.
    private static void rearBeforeTheStart() {
        BeltRows x = Rows.withBelts(1, 1, 1000, 500);
        x.join(0, 0, 1, 1);
        x.run(1, 500, false);
        x.gaps(0);
        x.item(0, 2000);
        CHECK.is("rear -2000", x.item(0, 1), -2000);
        x.step(1);
        CHECK.is("rear -1999", x.item(0, 1), -1999);
        x.run(1, 500, true);
        x.step(1);
        CHECK.is("rear -1500 on the next belt", x.item(1, 1), -1500);
        x.step(1);
        CHECK.is("rear -1000 at its end", x.item(1, 1), -1000);
        x.item(0, 1);
        CHECK.is("only out: there is room then, and it is passed on in the next second", x.step(1), 1);
        CHECK.is("passed on", x.step(1), 1);
        CHECK.is("rear 499", x.item(1, 1), 3);
        CHECK.is("between them", x.gap(2, 3), 499);
    }

    // Items of a belt are in their order, the one that came first is in front.
    private static void firstInFront() {
        BeltRows x = Rows.withBelts(10, 10, 1000, 100);
        x.join(0, 0, 1, 1);
        x.item(0, 1);
        x.item(1, 1);
        CHECK.is("item 2 is there alone", x.known(1, 4), 2);
        x.step(3);
        CHECK.is("item 1 came then", x.known(1, 3), 2);
        CHECK.is("behind the other one, of its higher number", x.known(1, 4), 2);
        CHECK.toldIs(x, 2, 0, 1, 300);
        CHECK.toldIs(x, 1, 0, 1, 100);
        x.take(2);
        CHECK.is("then it is in front", x.known(1, 4), 1);
    }

    // The least GAP (100 at first ..
    private static void gapOfOneHundred() {
        BeltRows x = Rows.withBelts(1000, 101);
        x.item(0, 1);
        CHECK.is("101 short", x.item(0, 1), -101);
        x.step(1);
        CHECK.is("100 are enough", x.item(0, 1), 2);
        CHECK.is("just 100", x.gap(1, 2), 100);
        BeltRows y = Rows.withBelts(1000, 100);
        y.item(0, 1);
        y.step(1);
        CHECK.is("99 are too few", y.item(0, 1), -1);
    }

    // .. 0 .. 1000) is kept between a rear and the front of the item behind it.
    private static void gapFromZeroToThousand() {
        int[] gaps = {0, 1, 999, 1000};
        for (int gap : gaps) {
            BeltRows x = Rows.withBelts(3000, 900, 10, 0);
            x.join(0, 0, 1, 1);
            x.run(1, 0, false);
            x.gaps(gap);
            x.item(0, 500);
            x.step(2);
            x.item(0, 1);
            CHECK.is("gap " + gap + ": put", x.gap(1, 2), 1300);
            x.step(4);
            CHECK.is("gap " + gap + ": kept", x.gap(2, 1), gap);
            CHECK.is("gap " + gap + ": place", x.told(2, 2), 2500 - gap);
        }
    }

    // There is ROOM at a belt's start if it is empty ..
    private static void roomIfEmpty() {
        BeltRows x = Rows.withBelts(1, 0);
        x.gaps(1000);
        CHECK.is("empty at first", x.item(0, 2000), 1);
        CHECK.is("not empty", x.item(0, 1), -3000);
        x.take(1);
        CHECK.is("empty when it was taken", x.item(0, 1), 2);
        x.run(0, 1, true);
        x.step(2);
        CHECK.is("empty when it is out", x.item(0, 1), 3);
        x.run(0, 1, false);
        x.clean(0);
        CHECK.is("empty when it was cleaned", x.item(0, 1), 4);
    }

    // .. or the rear of its last item is no less than the gap.
    private static void roomIfRearIsNoLess() {
        BeltRows x = Rows.withBelts(5000, 1);
        x.gaps(0);
        x.item(0, 3);
        for (int missing = 3; missing > 0; missing--) {
            CHECK.is("missing", x.item(0, 1), -missing);
            x.step(1);
        }
        CHECK.is("rear 0, gap 0", x.item(0, 1), 2);
        CHECK.is("between them nothing", x.gap(1, 2), 0);
        x.take(2);
        x.run(0, 1000, true);
        x.step(1);
        x.gaps(1000);
        CHECK.is("rear 1000, gap 1000", x.item(0, 1), 3);
        x.take(3);
        x.slip(1, 1);
        CHECK.is("rear 999, gap 1000", x.item(0, 1), -1);
        x.gaps(999);
        CHECK.is("rear 999, gap 999", x.item(0, 1), 4);
    }

    private static void roomBehindTheLastItem() {
        BeltRows x = Rows.withBelts(5000, 1000);
        x.item(0, 10);
        x.step(2);
        x.item(0, 40);
        CHECK.is("the last one counts, not the front one", x.item(0, 1), -140);
        x.take(2);
        CHECK.is("the front one is the last one now", x.item(0, 1), 3);
        x.take(1);
        CHECK.is("the last one still counts", x.item(0, 1), -101);
    }

    // An item at its belt's end (its place is the length)
    private static void atTheEndOnly() {
        BeltRows x = Rows.withBelts(100, 99, 100, 99, 100, 0);
        x.join(0, 0, 2, 1);
        x.item(0, 1);
        x.item(1, 1);
        x.step(1);
        x.run(0, 0, true);
        x.run(1, 0, true);
        CHECK.is("one before the end: nothing goes", x.step(5), 0);
        x.run(0, 1, true);
        x.run(1, 1, true);
        CHECK.is("at the end by this move, too late for this second", x.step(1), 0);
        CHECK.is("at the end", x.told(1, 2), 100);
        x.slip(2, 1);
        CHECK.is("only the one at its end goes", x.step(1), 1);
        CHECK.edgeIs(x, 0, 8, 2, 1, 2);
        CHECK.is("then the other one", x.step(1), 1);
        CHECK.edgeIs(x, 1, 9, 1, 2, 1);
    }

    // .. goes by its told way (0 at first) if the belt has a next one by it, else by way 0;
    // it is OUT if there is none by that either.
    private static void toldWayElseWayZeroElseOut() {
        goesTo("untold, no ways", OUT, -1, false, false);
        goesTo("untold, way 0", 1, -1, true, false);
        goesTo("untold, way 1", OUT, -1, false, true);
        goesTo("untold, both ways", 1, -1, true, true);
        goesTo("told 0, no ways", OUT, 0, false, false);
        goesTo("told 0, way 0", 1, 0, true, false);
        goesTo("told 0, way 1", OUT, 0, false, true);
        goesTo("told 0, both ways", 1, 0, true, true);
        goesTo("told 1, no ways", OUT, 1, false, false);
        goesTo("told 1, way 0", 1, 1, true, false);
        goesTo("told 1, way 1", 2, 1, false, true);
        goesTo("told 1, both ways", 2, 1, true, true);
    }

    private static void goesTo(String what, int due, int way, boolean zero, boolean one) {
        BeltRows x = Rows.withBelts(10, 10, 10, 0, 10, 0);
        if (zero) {
            x.join(0, 0, 1, 1);
        }
        if (one) {
            x.join(0, 1, 2, 1);
        }
        x.item(0, 1);
        CHECK.is(what + ": 0 at first", x.told(1, 4), 0);
        if (way >= 0) {
            x.divert(1, way);
            CHECK.is(what + ": told", x.told(1, 4), way);
        }
        CHECK.is(what + ": one edge", x.step(2), 1);
        CHECK.is(what + ": kind", x.edge(0, 1), due == OUT ? 1 : 2);
        CHECK.is(what + ": belt", x.edge(0, 3), due == OUT ? 0 : due);
        CHECK.is(what + ": by way 0", x.known(0, 7), due == 1 ? 1 : 0);
        CHECK.is(what + ": by way 1", x.known(0, 8), due == 2 ? 1 : 0);
    }

    private static void waysAsTheyAreThen() {
        BeltRows x = Rows.withBelts(10, 10, 10, 0, 10, 0);
        x.join(0, 0, 1, 1);
        x.run(1, 0, false);
        x.item(0, 1);
        CHECK.is("it waits at the end", x.step(3), 0);
        x.divert(1, 1);
        CHECK.is("there is no way 1 yet", x.step(1), 0);
        x.join(0, 1, 2, 1);
        CHECK.is("now there is", x.step(1), 1);
        CHECK.edgeIs(x, 0, 5, 2, 1, 2);
        x.join(1, 0, 2, 1);
        x.run(1, 10, true);
        x.item(1, 1);
        x.step(4);
        CHECK.is("no room on belt 2", x.told(2, 2), 10);
        x.take(1);
        CHECK.is("room when the other one is taken", x.step(1), 1);
        CHECK.edgeIs(x, 1, 10, 2, 2, 2);
    }

    // A SECOND: time is one more.
    private static void timeIsOneMore() {
        BeltRows x = Rows.withBelts(1, 1);
        x.item(0, 1);
        x.step(1);
        CHECK.is("no edge in second 1", x.count(4), 0);
        x.step(1);
        CHECK.edgeIs(x, 0, 2, 1, 1, 0);
        CHECK.is("put in second 0", x.told(1, 6), 0);
        x.item(0, 1);
        CHECK.is("put in second 2", x.told(2, 6), 2);
        CHECK.is("2 seconds each", x.mean(), 2);
    }

    private static BeltRows line(int length, int speed) {
        BeltRows x = new BeltRows();
        for (int belt = 0; belt < 8; belt++) {
            x.belt(length, speed);
        }
        for (int belt = 0; belt < 7; belt++) {
            x.join(belt, 0, belt + 1, 1);
        }
        return x;
    }

    // Then belts downward by number
    private static void beltsDownward() {
        BeltRows x = line(50, 50);
        for (int belt = 0; belt < 8; belt++) {
            x.item(belt, 2000);
        }
        CHECK.is("to the ends", x.step(1), 0);
        CHECK.is("all at once", x.step(1), 8);
        CHECK.edgeIs(x, 0, 2, 1, 8, 7);
        for (int i = 1; i < 8; i++) {
            CHECK.edgeIs(x, i, 2, 2, 8 - i, 8 - i);
        }
        CHECK.is("belt 0 is empty", x.known(0, 3), 0);
        for (int belt = 1; belt < 8; belt++) {
            CHECK.is("its item was moved, too", x.told(belt, 2), 50);
        }
    }

    private static void oneBeltInASecond() {
        BeltRows x = line(1, 1000);
        x.item(0, 1);
        CHECK.is("to the end of belt 0", x.step(1), 0);
        for (int belt = 1; belt < 8; belt++) {
            CHECK.is("one belt on", x.step(1), 1);
            CHECK.toldIs(x, 1, 0, belt, 1, 1, 0, 1, 0);
        }
        CHECK.is("out", x.step(1), 1);
        CHECK.edgeIs(x, 7, 9, 1, 1, 7);
        CHECK.is("9 seconds", x.mean(), 9);
    }

    // for each: if it runs, first an item that is at its end and goes by no way is out
    private static void stoppedBeltLetsNothingOut() {
        BeltRows x = Rows.withBelts(10, 10);
        x.item(0, 1);
        x.step(1);
        x.run(0, 10, false);
        CHECK.is("stopped", x.step(100), 0);
        CHECK.is("still there", x.told(1, 2), 10);
        x.run(0, 0, true);
        CHECK.is("it runs, if at speed 0", x.step(1), 1);
        CHECK.edgeIs(x, 0, 102, 1, 1, 0);
        CHECK.is("its seconds count when it stood, too", x.mean(), 102);
    }

    private static void stoppedBeltTakesNothing() {
        BeltRows x = Rows.withBelts(10, 10, 10, 10);
        x.join(0, 0, 1, 1);
        x.run(1, 10, false);
        x.item(0, 1);
        CHECK.is("the next one is stopped", x.step(100), 0);
        CHECK.is("nothing went by the way", x.known(0, 7), 0);
        CHECK.is("but it can be put there by hand", x.item(1, 1), 2);
        x.step(1);
        CHECK.is("where it stays", x.told(2, 2), 0);
        x.take(2);
        x.run(1, 10, true);
        CHECK.is("it runs", x.step(1), 1);
    }

    // first .. is out; then, if there is room at its start
    private static void firstOutThenRoom() {
        BeltRows x = Rows.withBelts(10, 10, 100, 100);
        x.join(0, 0, 1, 1);
        x.item(0, 1);
        x.item(1, 1);
        CHECK.is("no room: the rear is at 99 then", x.step(1), 0);
        CHECK.is("out, and room by that", x.step(1), 2);
        CHECK.edgeIs(x, 0, 2, 1, 2, 1);
        CHECK.edgeIs(x, 1, 2, 2, 1, 1);
    }

    private static void roomByPassingOn() {
        BeltRows x = Rows.withBelts(10, 10, 10, 10, 1000, 100);
        x.join(0, 0, 1, 1);
        x.join(1, 0, 2, 1);
        x.item(0, 1);
        x.item(1, 1);
        x.step(1);
        CHECK.is("each one belt on, as the later belt comes first", x.step(1), 2);
        CHECK.edgeIs(x, 0, 2, 2, 2, 2);
        CHECK.edgeIs(x, 1, 2, 2, 1, 1);
    }

    private static void noRoomByMovingYet() {
        BeltRows x = Rows.withBelts(10, 10, 1000, 100);
        x.join(0, 0, 1, 1);
        x.item(0, 1);
        x.item(1, 1);
        x.step(1);
        CHECK.is("the rear is at 99", x.told(2, 2), 100);
        CHECK.is("passed on before what moves", x.step(1), 0);
        CHECK.is("the rear is at 199 now", x.told(2, 2), 200);
        CHECK.is("in the next second", x.step(1), 1);
    }

    private static void roomForWhatIsPassedOn() {
        for (int gap = 98; gap <= 100; gap++) {
            BeltRows x = Rows.withBelts(10, 10, 1000, 100);
            x.join(0, 0, 1, 1);
            x.gaps(gap);
            x.item(0, 2000);
            x.item(1, 1);
            x.step(1);
            CHECK.is("rear 99, gap " + gap, x.step(1), gap <= 99 ? 1 : 0);
        }
        BeltRows y = Rows.withBelts(10, 10, 1000, 0);
        y.join(0, 0, 1, 1);
        y.gaps(1000);
        y.item(0, 1);
        y.step(1);
        CHECK.is("an empty belt has room for any gap", y.step(1), 1);
    }

    // of the running belts with an item at their end that goes by a way to it one passes it on
    private static void onePassesOn() {
        BeltRows x = Rows.withBelts(10, 10, 10, 10, 10, 10, 5000, 1000);
        for (int belt = 0; belt < 3; belt++) {
            x.join(belt, 0, 3, 1);
            x.item(belt, 1);
        }
        x.step(1);
        for (int belt = 0; belt < 3; belt++) {
            CHECK.is("one a second", x.step(1), 1);
            CHECK.edgeIs(x, belt, 2 + belt, 2, belt + 1, 3);
        }
    }

    private static void runningBeltsPassOn() {
        BeltRows x = Rows.withBelts(10, 10, 10, 10, 5000, 1000);
        x.join(0, 0, 2, 9);
        x.join(1, 0, 2, 1);
        x.item(0, 1);
        x.item(1, 1);
        x.step(1);
        x.run(0, 10, false);
        CHECK.is("the running one, though the other is lower", x.step(1), 1);
        CHECK.edgeIs(x, 0, 2, 2, 2, 2);
        CHECK.is("the stopped one waits", x.step(3), 0);
        x.run(0, 0, true);
        CHECK.is("it runs at speed 0", x.step(1), 1);
        CHECK.edgeIs(x, 1, 6, 2, 1, 2);
    }

    private static void otherWaysDoNotCompete() {
        BeltRows x = Rows.withBelts(10, 10, 10, 10, 5000, 1000, 5000, 1000);
        x.join(0, 0, 2, 9);
        x.join(0, 1, 3, 9);
        x.join(1, 0, 2, 1);
        x.item(0, 1);
        x.divert(1, 1);
        x.item(1, 1);
        x.step(1);
        CHECK.is("each by its own way", x.step(1), 2);
        CHECK.edgeIs(x, 0, 2, 2, 1, 3);
        CHECK.edgeIs(x, 1, 2, 2, 2, 2);
    }

    /** Two belts, each with the same many items without gaps, that lead to belt 2, which is stopped yet. */
    private static BeltRows merge(int many, int shareOfZero, int shareOfOne) {
        BeltRows x = Rows.withBelts(100, 1000, 100, 1000, 10000, 1000);
        x.gaps(0);
        x.join(0, 0, 2, shareOfZero);
        x.join(1, 0, 2, shareOfOne);
        x.run(2, 1000, false);
        for (int i = 0; i < many; i++) {
            x.item(0, 1);
            x.item(1, 1);
            x.step(1);
        }
        x.run(2, 1000, true);
        return x;
    }

    /** From which of the two belts items are passed on, second by second: odd ones were put on belt 0. */
    private static void passes(BeltRows x, String due) {
        StringBuilder got = new StringBuilder();
        for (int i = 0; i < due.length(); i++) {
            int before = x.count(4);
            x.step(1);
            for (int edge = before; edge < x.count(4); edge++) {
                if (x.edge(edge, 1) == 2) {
                    got.append(x.edge(edge, 2) % 2 == 1 ? '0' : '1');
                }
            }
        }
        CHECK.is("passed on from " + got + ", due is " + due, got.toString().equals(due) ? 1 : 0, 1);
    }

    // that for which the number of items that went by this way so far, divided by its share, is least
    private static void leastByShare() {
        passes(merge(10, 1, 1), "01010101010101010101");
        passes(merge(10, 1, 9), "01111111110");
        passes(merge(10, 9, 1), "01000000000");
        passes(merge(10, 2, 1), "010010010010010");
        passes(merge(10, 1, 2), "011011011011011");
        passes(merge(10, 5, 3), "01010010" + "01010010");
    }

    // (compared exactly)
    private static void comparedExactly() {
        passes(merge(12, 9, 8), "0101010101010101" + "001" + "0");
        passes(merge(12, 8, 9), "01" + "10101010101010" + "101");
        passes(merge(12, 7, 6), "010101010101" + "001" + "01");
    }

    // of equal ones the lowest
    private static void equalOnesTheLowest() {
        passes(merge(10, 3, 9), "0111" + "0111" + "0");
        passes(merge(10, 9, 3), "010001000100");
        passes(merge(4, 4, 4), "01010101");
        BeltRows x = merge(6, 1, 1);
        x.run(0, 1000, false);
        passes(x, "11");
        x.run(0, 1000, true);
        passes(x, "00" + "01");
    }

    private static void countedByWay() {
        BeltRows x = Rows.withBelts(100, 1000, 100, 1000, 10000, 1000);
        x.gaps(0);
        x.join(0, 0, 2, 1);
        x.join(0, 1, 2, 1);
        x.join(1, 1, 2, 1);
        x.join(1, 0, 2, 9);
        x.run(2, 1000, false);
        for (int i = 0; i < 4; i++) {
            x.item(0, 1);
            x.item(1, 1);
            x.divert(2 * i + 2, 1);
            x.step(1);
        }
        x.divert(5, 1);
        x.divert(7, 1);
        x.run(2, 1000, true);
        // Items 1, 2 and 3 take turns; 5 goes by another way, by which none went yet, and 7 as that of the lower belt.
        passes(x, "010" + "00" + "111");
        CHECK.knownIs(x, 0, 100, 1000, 1, 0, -1, 2, 2, 2, 2);
        CHECK.knownIs(x, 1, 100, 1000, 1, 0, -1, 2, 2, 0, 4);
    }

    // each goes on by the speed, but not behind the end
    private static void notBehindTheEnd() {
        for (int speed = 99; speed <= 101; speed++) {
            BeltRows x = Rows.withBelts(200, speed);
            x.item(0, 1);
            x.step(2);
            CHECK.is("speed " + speed, x.told(1, 2), Math.min(200, 2 * speed));
            CHECK.is("at the end or not", x.step(1), speed == 99 ? 0 : 1);
        }
    }

    // nor behind the rear of the one in front of it less the gap
    private static void notBehindTheRearLessTheGap() {
        for (int speed = 49; speed <= 51; speed++) {
            BeltRows x = Rows.withBelts(200, 200, 10, 0);
            x.join(0, 0, 1, 1);
            x.run(1, 0, false);
            x.item(0, 50);
            x.step(1);
            x.item(0, 1);
            x.run(0, speed, true);
            x.step(1);
            CHECK.is("speed " + speed, x.told(2, 2), Math.min(50, speed));
            x.step(1);
            CHECK.is("no further", x.told(2, 2), 50);
            CHECK.is("the one in front stands", x.told(1, 2), 200);
        }
        BeltRows y = Rows.withBelts(1000, 300);
        y.item(0, 200);
        y.step(1);
        y.item(0, 20);
        y.step(1);
        CHECK.is("the front one moves first", y.told(1, 2), 600);
        CHECK.is("so the other keeps its speed", y.told(2, 2), 300);
        y.item(0, 1);
        y.step(1);
        CHECK.toldIs(y, 3, 0, 0, 300);
    }

    private static void eachBehindTheNext() {
        BeltRows x = Rows.withBelts(1000, 200, 10, 0);
        x.join(0, 0, 1, 1);
        x.run(1, 0, false);
        x.gaps(30);
        int[] due = {1000, 960, 910, 850};
        for (int item = 1; item <= 4; item++) {
            x.item(0, 10 * item);
            x.step(1);
        }
        x.step(6);
        for (int item = 1; item <= 4; item++) {
            CHECK.is("item " + item + " stands", x.told(item, 2), due[item - 1]);
        }
        x.take(2);
        x.step(1);
        CHECK.is("up to the one in front of the taken one", x.told(3, 2), 960);
        CHECK.is("and the one behind it", x.told(4, 2), 900);
    }

    // (and never back)
    private static void neverBack() {
        BeltRows x = Rows.withBelts(1000, 300, 10, 0);
        x.join(0, 0, 1, 1);
        x.run(1, 0, false);
        x.gaps(0);
        x.item(0, 100);
        x.step(1);
        x.item(0, 100);
        x.step(2);
        CHECK.toldIs(x, 1, 0, 0, 900);
        CHECK.toldIs(x, 2, 0, 0, 600);
        x.gaps(1000);
        x.step(1);
        CHECK.is("up to the end", x.told(1, 2), 1000);
        CHECK.is("not back to -100", x.told(2, 2), 600);
        x.gaps(300);
        x.step(1);
        CHECK.is("not on either", x.told(2, 2), 600);
        x.gaps(299);
        x.step(1);
        CHECK.is("by one", x.told(2, 2), 601);
    }

    // the one that came in this second, too
    private static void theOneThatCameToo() {
        BeltRows x = Rows.withBelts(10, 10, 1000, 0, 1000, 70);
        x.join(0, 0, 1, 1);
        x.join(0, 1, 2, 1);
        x.item(0, 1);
        x.step(2);
        CHECK.toldIs(x, 1, 0, 1, 0, 1, 0, 0, 0);
        x.item(0, 1);
        x.divert(2, 1);
        x.step(2);
        CHECK.toldIs(x, 2, 0, 2, 70, 1, 0, 70, 2);
        CHECK.edgeIs(x, 1, 4, 2, 2, 2);
    }

    private static void nothingMoves() {
        BeltRows x = Rows.withBelts(1000, 100, 100, 100, 100, 100);
        x.join(1, 0, 2, 1);
        x.scanner(0, 1, 20);
        x.scanner(1, 100, 20);
        x.item(0, 10);
        x.item(1, 10);
        x.item(2, 10);
        for (int belt = 0; belt < 3; belt++) {
            x.run(belt, 100, false);
        }
        CHECK.is("all belts are stopped", x.step(1), 0);
        CHECK.countIs(x, 3, 3, 3, 0, 0, 1, 2, 0);
        for (int belt = 0; belt < 3; belt++) {
            CHECK.toldIs(x, belt + 1, 0, belt, 0, 10, 0, 0, 0);
            x.run(belt, 0, true);
        }
        CHECK.is("all speeds are 0", x.step(100), 0);
        CHECK.countIs(x, 3, 3, 3, 0, 0, 101, 2, 0);
        for (int belt = 0; belt < 3; belt++) {
            CHECK.toldIs(x, belt + 1, 0, belt, 0, 10, 0, 0, 0);
        }
        x.run(1, 100, true);
        x.step(1);
        CHECK.is("no room for it, so it waits at the end", x.step(1), 0);
        CHECK.toldIs(x, 2, 0, 1, 100, 10, 0, 100, 0);
        CHECK.is("read once", x.count(7), 1);
    }

    // SCANNERS 0, 1, .. (at most 4)
    private static void atMostFourScanners() {
        BeltRows x = Rows.withBelts(10, 10, 20, 20);
        for (int scanner = 0; scanner < 4; scanner++) {
            CHECK.fails("a wrong scanner takes no number", ARGUMENT, () -> x.scanner(0, 11, 1));
            CHECK.is("scanner " + scanner, x.scanner(scanner % 2, 10, 1), scanner);
            CHECK.is("so many", x.count(6), scanner + 1);
        }
        CHECK.fails("scanner 4", FULL, () -> x.scanner(1, 20, 1));
        CHECK.is("four", x.count(6), 4);
        x.item(0, 1);
        x.item(1, 1);
        x.step(1);
        CHECK.is("all four read", x.step(1), 6);
        CHECK.edgeIs(x, 0, 2, 0, 1, 0);
        CHECK.edgeIs(x, 1, 2, 0, 1, 2);
        CHECK.edgeIs(x, 2, 2, 0, 2, 1);
        CHECK.edgeIs(x, 3, 2, 0, 2, 3);
        CHECK.edgeIs(x, 4, 2, 1, 2, 1);
        CHECK.edgeIs(x, 5, 2, 1, 1, 0);
    }

    // a belt, a place on it; its place is not 1 .. the belt's length
    private static void scannerPlaces() {
        BeltRows x = Rows.withBelts(1, 1, 300, 300);
        CHECK.fails("place 0 on length 1", ARGUMENT, () -> x.scanner(0, 0, 1));
        CHECK.fails("place 2 on length 1", ARGUMENT, () -> x.scanner(0, 2, 1));
        CHECK.is("place 1 on length 1", x.scanner(0, 1, 1), 0);
        CHECK.fails("place 301 on length 300", ARGUMENT, () -> x.scanner(1, 301, 1));
        CHECK.is("place 300 on length 300", x.scanner(1, 300, 1), 1);
        CHECK.is("place 1 on length 300", x.scanner(1, 1, 1), 2);
        x.item(0, 1);
        x.item(1, 1);
        x.step(1);
        CHECK.is("at the end and at 1, all read", x.count(7), 3);
    }

    // if an item's place was below the scanner's before it moved in a second and is not below it then
    private static void belowBeforeAndNotBelowThen() {
        BeltRows x = Rows.withBelts(1000, 99);
        x.scanner(0, 100, 1);
        x.item(0, 1);
        x.step(1);
        CHECK.is("99 is below 100", x.count(7), 0);
        x.run(0, 0, true);
        x.step(1);
        CHECK.is("still below", x.count(7), 0);
        x.run(0, 1, true);
        x.step(1);
        CHECK.is("100 is not", x.count(7), 1);
        CHECK.is("told", x.step(1), 1);
        CHECK.is("100 was not below 100 before", x.count(7), 0);
        CHECK.is("never again", x.step(100), 0);
        BeltRows y = Rows.withBelts(1000, 1000);
        y.item(0, 1);
        y.step(1);
        y.scanner(0, 1000, 1);
        y.run(0, 1000, false);
        CHECK.is("a scanner that came too late", y.step(5), 0);
        belowThoughExpectedBeyond();
    }

    private static void belowThoughExpectedBeyond() {
        BeltRows x = Rows.withBelts(1000, 500, 10, 0);
        x.join(0, 0, 1, 1);
        x.run(1, 0, false);
        x.scanner(0, 701, 1);
        x.scanner(0, 700, 20);
        x.item(0, 200);
        x.step(2);
        x.item(0, 1);
        x.step(2);
        CHECK.is("it waits at 700", x.told(2, 2), 700);
        CHECK.is("though it was expected beyond", x.told(2, 5), 1000);
        CHECK.is("only the first item is read at 701", x.count(4), 1);
        CHECK.is("both are to be read at 700", x.count(7), 2);
    }

    private static void ofItsBelt() {
        BeltRows x = Rows.withBelts(100, 100, 100, 100);
        x.join(0, 0, 1, 1);
        x.scanner(1, 50, 1);
        x.item(0, 1);
        x.step(1);
        CHECK.is("past 50 on another belt", x.count(7), 0);
        x.step(1);
        CHECK.is("past 50 in the second in which it came", x.count(7), 1);
        x.step(1);
        CHECK.edgeIs(x, 1, 3, 0, 1, 0);
    }

    // a delay 1 .. 20: .. it is read so many seconds later
    private static void soManySecondsLater() {
        for (int delay = 1; delay <= 20; delay++) {
            BeltRows x = Rows.withBelts(10000, 10);
            x.scanner(0, 25, delay);
            x.item(0, 1);
            CHECK.is("passed in second 3, not yet read", x.step(2 + delay), 0);
            CHECK.is("one to be told", x.count(7), 1);
            CHECK.is("delay " + delay, x.step(1), 1);
            CHECK.edgeIs(x, 0, 3 + delay, 0, 1, 0);
            CHECK.is("none to be told", x.count(7), 0);
        }
    }

    // wherever it is by then
    private static void whereverItIs() {
        BeltRows x = Rows.withBelts(100, 100, 100, 100);
        x.join(0, 0, 1, 1);
        x.scanner(0, 100, 5);
        x.item(0, 1);
        x.step(1);
        x.run(0, 100, false);
        CHECK.is("on a stopped belt", x.step(4), 0);
        CHECK.is("it is read", x.step(1), 1);
        CHECK.edgeIs(x, 0, 6, 0, 1, 0);
        x.clean(0);
        x.run(0, 100, true);
        x.item(0, 1);
        x.step(1);
        x.run(0, 0, false);
        CHECK.is("cleaned away", x.clean(0), 1);
        CHECK.is("it is read all the same", x.step(5), 1);
        CHECK.edgeIs(x, 1, 12, 0, 2, 0);
        x.run(0, 100, true);
        x.item(0, 1);
        CHECK.is("passed on and out", x.step(3), 2);
        CHECK.is("no read yet", x.step(2), 0);
        CHECK.is("it is read when it is out", x.step(1), 1);
        CHECK.edgeIs(x, 4, 18, 0, 3, 0);
    }

    private static void slippedToOrBelowAScanner() {
        BeltRows x = Rows.withBelts(1000, 200);
        x.scanner(0, 100, 1);
        x.item(0, 1);
        x.step(1);
        CHECK.is("a slip brings no read", x.slip(1, 100), 100);
        CHECK.is("nor does what was read wait longer", x.step(1), 1);
        CHECK.is("slipped just to it: not below it", x.count(7), 0);
        x.slip(1, 201);
        CHECK.is("slipped below it: no read by that", x.count(7), 0);
        x.step(1);
        CHECK.is("but by the way on", x.count(7), 1);
        x.slip(1, 250);
        x.step(1);
        CHECK.is("and again", x.count(7), 1);
        CHECK.is("two were told, one is to come", x.count(4), 2);
        CHECK.is("it comes", x.step(1), 1);
    }

    // EDGES .. in a second first what is read .. then what is out and passed on, as it comes
    private static void readBeforeOutAndPassedOn() {
        BeltRows x = Rows.withBelts(10, 10, 10, 10, 10, 10);
        x.join(0, 0, 1, 1);
        x.scanner(0, 10, 1);
        x.item(0, 1);
        x.item(1, 1);
        x.item(2, 1);
        x.step(1);
        CHECK.is("a read, two out, one passed on", x.step(1), 4);
        CHECK.edgeIs(x, 0, 2, 0, 1, 0);
        CHECK.edgeIs(x, 1, 2, 1, 3, 2);
        CHECK.edgeIs(x, 2, 2, 1, 2, 1);
        CHECK.edgeIs(x, 3, 2, 2, 1, 1);
    }

    // by the second in which it passed
    private static void readByTheSecondInWhichItPassed() {
        BeltRows x = Rows.withBelts(1000, 100, 1000, 100);
        x.scanner(0, 50, 1);
        x.scanner(1, 50, 3);
        x.scanner(1, 150, 2);
        x.item(1, 1);
        x.step(2);
        x.item(0, 1);
        x.step(1);
        CHECK.is("three in one second", x.step(1), 3);
        CHECK.edgeIs(x, 0, 4, 0, 1, 1);
        CHECK.edgeIs(x, 1, 4, 0, 1, 2);
        CHECK.edgeIs(x, 2, 4, 0, 2, 0);
    }

    // then in the order in which items moved
    private static void readInTheOrderInWhichItemsMoved() {
        BeltRows x = Rows.withBelts(10, 10, 1000, 500, 1000, 500);
        x.gaps(0);
        x.join(0, 0, 2, 1);
        x.scanner(2, 400, 1);
        x.scanner(2, 900, 1);
        x.scanner(1, 400, 1);
        x.item(0, 1);
        x.item(2, 1);
        x.step(2);
        CHECK.is("the first read of item 2", x.count(4), 2);
        CHECK.edgeIs(x, 0, 2, 0, 2, 0);
        CHECK.edgeIs(x, 1, 2, 2, 1, 2);
        CHECK.is("out after the reads", x.step(1), 3);
        CHECK.edgeIs(x, 2, 3, 0, 2, 1);
        CHECK.edgeIs(x, 3, 3, 0, 1, 0);
        CHECK.edgeIs(x, 4, 3, 1, 2, 2);
        BeltRows y = Rows.withBelts(1000, 500, 1000, 500);
        y.scanner(1, 400, 1);
        y.scanner(0, 400, 1);
        y.item(1, 1);
        y.item(0, 1);
        y.step(1);
        CHECK.is("belts upward", y.step(1), 2);
        CHECK.edgeIs(y, 0, 2, 0, 2, 1);
        CHECK.edgeIs(y, 1, 2, 0, 1, 0);
    }

    // of one item by scanners
    private static void ofOneItemByScanners() {
        BeltRows x = Rows.withBelts(1000, 1000);
        x.scanner(0, 900, 2);
        x.scanner(0, 10, 2);
        x.scanner(0, 500, 2);
        x.scanner(0, 10, 2);
        x.item(0, 1);
        x.run(0, 999, true);
        x.step(1);
        x.run(0, 0, true);
        CHECK.is("four reads of one item to come", x.count(7), 4);
        CHECK.is("all in one second", x.step(2), 4);
        for (int scanner = 0; scanner < 4; scanner++) {
            CHECK.edgeIs(x, scanner, 3, 0, 1, scanner);
        }
    }

    // The EXPECTED place: the speeds of all seconds in which items of its belt were moved while it was there
    private static void expectedOnlyWhenMoved() {
        BeltRows x = Rows.withBelts(1000, 30);
        x.step(7);
        x.item(0, 1);
        CHECK.is("0 when it is put", x.told(1, 5), 0);
        x.step(2);
        CHECK.is("30 twice", x.told(1, 5), 60);
        x.run(0, 500, false);
        x.step(5);
        CHECK.is("stopped: nothing is added", x.told(1, 5), 60);
        x.run(0, 0, true);
        x.step(5);
        CHECK.is("speed 0: nothing is added", x.told(1, 5), 60);
        x.run(0, 41, true);
        x.step(1);
        CHECK.is("41 more", x.told(1, 5), 101);
        x.slip(1, 100);
        CHECK.is("a slip is not expected", x.told(1, 5), 101);
        CHECK.is("but it is so", x.told(1, 2), 1);
        x.item(0, 1);
        CHECK.is("one in want of room changes nothing", x.told(1, 5), 101);
    }

    // added; but not more than the belt's length
    private static void expectedUpToTheLength() {
        for (int speed = 199; speed <= 201; speed++) {
            BeltRows x = Rows.withBelts(400, speed, 10, 0);
            x.join(0, 0, 1, 1);
            x.run(1, 0, false);
            x.item(0, 1);
            x.step(2);
            CHECK.is("twice " + speed, x.told(1, 5), Math.min(400, 2 * speed));
            x.step(50);
            CHECK.is("the length", x.told(1, 5), 400);
            x.slip(1, 400);
            x.step(1);
            CHECK.is("still the length", x.told(1, 5), 400);
            CHECK.is("though it is not there", x.told(1, 2), speed);
        }
    }

    private static void expectedAnewOnTheNextBelt() {
        BeltRows x = Rows.withBelts(100, 1000, 1000, 20);
        x.join(0, 0, 1, 1);
        x.item(0, 1);
        x.step(1);
        CHECK.is("100 on belt 0", x.told(1, 5), 100);
        x.step(1);
        CHECK.is("20 on belt 1", x.told(1, 5), 20);
        x.step(1);
        CHECK.is("40 on belt 1", x.told(1, 5), 40);
        x.take(1);
        CHECK.is("-1 on none", x.told(1, 5), -1);
    }

    // join: how many ways lead there; instead of another one
    private static void waysThatLeadThere() {
        BeltRows x = new BeltRows();
        for (int i = 0; i < 8; i++) {
            x.belt(10, 10);
        }
        for (int belt = 0; belt < 7; belt++) {
            CHECK.is("by ways 0", x.join(belt, 0, 7, 1), 2 * belt + 1);
            CHECK.is("by ways 1", x.join(belt, 1, 7, 9), 2 * belt + 2);
        }
        CHECK.is("the same way again", x.join(3, 1, 7, 5), 14);
        CHECK.is("to another belt", x.join(3, 1, 6, 5), 1);
        CHECK.is("one less led there", x.join(0, 0, 7, 1), 13);
    }

    // what went by it is counted anew
    private static void wentIsCountedAnew() {
        BeltRows x = merge(6, 1, 1);
        passes(x, "0101");
        CHECK.is("two by way 0 of belt 0", x.known(0, 7), 2);
        x.join(0, 0, 2, 1);
        CHECK.is("anew", x.known(0, 7), 0);
        CHECK.is("the other belt's are not", x.known(1, 7), 2);
        passes(x, "00" + "0" + "1");
        CHECK.is("three", x.known(0, 7), 3);
        CHECK.fails("a refused join", ARGUMENT, () -> x.join(0, 0, 2, 10));
        CHECK.is("still three", x.known(0, 7), 3);
        CHECK.is("still there", x.known(0, 5), 2);
    }

    // run: a belt's speed, and whether it runs
    private static void speedZero() {
        BeltRows x = Rows.withBelts(10, 10, 100, 0);
        x.join(0, 0, 1, 1);
        x.item(0, 1);
        CHECK.is("to the end and on", x.step(2), 1);
        CHECK.toldIs(x, 1, 0, 1, 0, 1, 0, 0, 0);
        CHECK.is("it stays at the start", x.step(50), 0);
        CHECK.is("there is no room there", x.item(1, 1), -101);
    }

    // item: its number; or less the millimetres that are missing to room, and none is put
    private static void missingToRoom() {
        BeltRows x = Rows.withBelts(5000, 1000);
        x.gaps(1000);
        x.item(0, 2000);
        CHECK.is("the most that can be missing", x.item(0, 1), -3000);
        x.step(1);
        CHECK.is("less", x.item(0, 2000), -2000);
        x.step(1);
        x.run(0, 999, true);
        x.step(1);
        CHECK.is("the least", x.item(0, 2000), -1);
        CHECK.countIs(x, 1, 1, 1);
        CHECK.is("one on the belt", x.known(0, 3), 1);
        x.run(0, 1, true);
        x.step(1);
        CHECK.is("nothing is missing", x.item(0, 2000), 2);
        CHECK.countIs(x, 1, 2, 2);
    }

    // divert: 1; 2 if it was told one on this belt already. With the belt the way is forgotten.
    private static void divertedOnThisBelt() {
        BeltRows x = line(10, 10);
        x.item(0, 1);
        for (int belt = 0; belt < 8; belt++) {
            CHECK.is("not told here", x.told(1, 4), 0);
            CHECK.is("told way 0, which is told, too", x.divert(1, 0), 1);
            CHECK.is("told already", x.divert(1, 0), 2);
            CHECK.is("told again", x.divert(1, 1), 2);
            CHECK.is("the last one counts", x.told(1, 4), 1);
            x.step(belt == 0 ? 2 : 1);
        }
        CHECK.is("out", x.told(1, 0), 1);
        CHECK.fails("on no belt", STATE, () -> x.divert(1, 0));
        BeltRows y = Rows.withBelts(100, 10);
        y.item(0, 1);
        CHECK.fails("a wrong way", ARGUMENT, () -> y.divert(1, 2));
        CHECK.is("is not told", y.divert(1, 1), 1);
        y.run(0, 10, false);
        CHECK.is("on a stopped belt, too", y.divert(1, 0), 2);
    }

    // step: so many seconds (0 .. 100): how many edges there were
    private static void stepsFromZeroToHundred() {
        BeltRows x = Rows.withBelts(100, 1);
        x.item(0, 1);
        CHECK.is("step(100)", x.step(100), 0);
        CHECK.is("100 seconds", x.told(1, 2), 100);
        CHECK.is("step(0)", x.step(0), 0);
        CHECK.is("nothing in no second", x.told(1, 0), 0);
        CHECK.is("step(1)", x.step(1), 1);
        CHECK.is("only those of this call", x.step(100), 0);
        CHECK.is("201 seconds", x.count(5), 201);
    }

    // edge: of edge i; NoSuchElementException
    private static void edgesFromTheFirstToTheLast() {
        BeltRows x = Rows.withBelts(10, 10);
        CHECK.fails("none yet", MISSING, () -> x.edge(0, 0));
        x.item(0, 1);
        x.step(1);
        CHECK.fails("none yet in second 1", MISSING, () -> x.edge(0, 0));
        x.step(1);
        CHECK.edgeIs(x, 0, 2, 1, 1, 0);
        CHECK.fails("edge 1", MISSING, () -> x.edge(1, 0));
        CHECK.fails("edge -1", MISSING, () -> x.edge(-1, 0));
        x.scanner(0, 1, 20);
        x.item(0, 1);
        x.step(1);
        CHECK.is("a read to come", x.count(7), 1);
        CHECK.fails("is no edge yet", MISSING, () -> x.edge(1, 0));
    }

    // slip: by 1 .. 1000 millimetres: its place. IllegalStateException: it would be before the start
    private static void slipsToTheStart() {
        BeltRows x = Rows.withBelts(5000, 1000);
        x.item(0, 1);
        CHECK.fails("at the start", STATE, () -> x.slip(1, 1));
        x.step(1);
        CHECK.is("by 1000 to the start", x.slip(1, 1000), 0);
        x.step(2);
        CHECK.is("by 1", x.slip(1, 1), 1999);
        CHECK.is("by 1000", x.slip(1, 1000), 999);
        CHECK.fails("by 1000 again", STATE, () -> x.slip(1, 1000));
        CHECK.is("it stays", x.told(1, 2), 999);
        CHECK.is("by 999", x.slip(1, 999), 0);
        CHECK.is("told, too", x.told(1, 2), 0);
    }

    // or less than the gap would be to the one behind it
    private static void slipsUpToTheGap() {
        BeltRows x = Rows.withBelts(5000, 1000);
        x.gaps(0);
        x.item(0, 300);
        x.step(1);
        x.item(0, 1);
        CHECK.fails("1 less than the gap 0", STATE, () -> x.slip(1, 701));
        CHECK.is("just the gap 0", x.slip(1, 700), 300);
        CHECK.fails("no further", STATE, () -> x.slip(1, 1));
        x.gaps(100);
        x.step(1);
        CHECK.toldIs(x, 2, 0, 0, 900);
        CHECK.is("just the gap 100", x.gap(1, 2), 100);
        CHECK.fails("1 less than the gap 100", STATE, () -> x.slip(1, 1));
        CHECK.is("the one behind may slip away", x.slip(2, 1), 899);
        CHECK.is("then the one in front by 1, too", x.slip(1, 1), 1299);
        x.gaps(101);
        CHECK.fails("too near already", STATE, () -> x.slip(1, 1));
        x.gaps(0);
        CHECK.is("the gap of now counts", x.slip(1, 100), 1199);
        x.take(2);
        x.gaps(1000);
        CHECK.is("none is behind it", x.slip(1, 1000), 199);
    }

    private static void slipsFromTheEnd() {
        BeltRows x = Rows.withBelts(100, 100);
        x.item(0, 1);
        x.step(1);
        x.run(0, 1, false);
        CHECK.is("on a stopped belt, from the end", x.slip(1, 1), 99);
        x.run(0, 1, true);
        CHECK.is("not at the end now", x.step(1), 0);
        CHECK.is("but again", x.told(1, 2), 100);
        CHECK.is("and out", x.step(1), 1);
        CHECK.fails("on no belt", STATE, () -> x.slip(1, 1));
    }

    // take: an item is taken away by hand
    private static void takenFromEachPlace() {
        for (int taken = 1; taken <= 3; taken++) {
            BeltRows x = Rows.withBelts(1000, 300);
            for (int item = 1; item <= 3; item++) {
                x.item(0, 10);
                x.step(1);
            }
            x.run(0, 300, taken != 2);
            x.take(taken);
            CHECK.toldIs(x, taken, 2, 0, -1, 10, 0, -1, taken - 1);
            CHECK.is("two are left", x.known(0, 3), 2);
            CHECK.is("the first one in front", x.known(0, 4), taken == 1 ? 2 : 1);
            CHECK.is("what is between them", x.gap(taken == 1 ? 2 : 1, taken == 3 ? 2 : 3), taken == 2 ? 590 : 290);
            CHECK.countIs(x, 1, 3, 2, 0, 0, 3);
        }
        BeltRows y = Rows.withBelts(10, 10);
        y.item(0, 1);
        y.step(1);
        y.take(1);
        CHECK.is("taken at the end, it does not go out", y.step(5), 0);
        CHECK.fails("order", MISSING, () -> y.order(0));
    }

    // clean: a stopped belt is cleaned. IllegalStateException: it runs
    private static void cleanedOnlyIfStopped() {
        BeltRows x = Rows.withBelts(1000, 0, 1000, 200);
        CHECK.fails("empty, but it runs at speed 0", STATE, () -> x.clean(0));
        x.run(0, 1000, false);
        CHECK.is("empty and stopped", x.clean(0), 0);
        x.item(0, 1);
        CHECK.is("one", x.clean(0), 1);
        CHECK.is("none any more", x.clean(0), 0);
        CHECK.toldIs(x, 1, 2, 0, -1, 1, 0, -1, 0);
        for (int item = 2; item <= 5; item++) {
            x.item(1, 100);
            x.step(1);
        }
        x.run(1, 200, false);
        x.take(3);
        CHECK.is("three, one was taken before", x.clean(1), 3);
        CHECK.knownIs(x, 1, 1000, 200, 0, 0, -1);
        x.run(1, 200, true);
        CHECK.fails("it runs again", STATE, () -> x.clean(1));
        CHECK.is("and has room", x.item(1, 1), 6);
        CHECK.is("none went out", x.count(3), 0);
    }

    // gap: the rear of the one in front less the place of the other
    private static void gapsOfTwoItems() {
        BeltRows x = Rows.withBelts(1000, 300, 10, 10);
        x.item(0, 200);
        x.step(1);
        x.item(0, 30);
        CHECK.is("100", x.gap(1, 2), 100);
        CHECK.is("either way", x.gap(2, 1), 100);
        x.step(1);
        x.item(0, 1);
        CHECK.is("over an item between them", x.gap(3, 1), 400);
        CHECK.is("next to each other", x.gap(2, 3), 270);
        CHECK.fails("an item and itself", STATE, () -> x.gap(2, 2));
        x.item(1, 1);
        CHECK.fails("on two belts", STATE, () -> x.gap(2, 4));
        CHECK.fails("on two belts, either way", STATE, () -> x.gap(4, 2));
        x.take(1);
        x.take(2);
        CHECK.fails("both on no belt", STATE, () -> x.gap(1, 2));
        CHECK.fails("an item on no belt and itself", STATE, () -> x.gap(1, 1));
        CHECK.fails("one is not there", MISSING, () -> x.gap(1, 5));
        CHECK.fails("the other is not there", MISSING, () -> x.gap(0, 1));
    }

    private static void gapsByPlacesOnly() {
        BeltRows x = Rows.withBelts(5000, 1000);
        x.item(0, 10);
        x.step(2);
        x.item(0, 10);
        x.step(1);
        x.slip(2, 1000);
        x.step(1);
        x.slip(1, 1000);
        x.slip(1, 1000);
        x.slip(2, 500);
        x.slip(1, 500);
        CHECK.toldIs(x, 1, 0, 0, 1500, 10, 0, 4000, 0);
        CHECK.toldIs(x, 2, 0, 0, 500, 10, 0, 2000, 2);
        CHECK.is("not by what was expected", x.gap(1, 2), 990);
        CHECK.is("either way", x.gap(2, 1), 990);
    }

    // told: 1 the belt on which it is or was last, 2 its place (-1 on none), 5 .. (-1 on none)
    private static void toldOfItemsOnNoBelt() {
        BeltRows x = Rows.withBelts(10, 10, 10, 10, 10, 10);
        x.join(0, 0, 2, 1);
        x.step(3);
        x.item(0, 7);
        x.item(1, 8);
        CHECK.toldIs(x, 1, 0, 0, 0, 7, 0, 0, 3);
        x.step(3);
        CHECK.toldIs(x, 1, 1, 2, -1, 7, 0, -1, 3);
        CHECK.toldIs(x, 2, 1, 1, -1, 8, 0, -1, 3);
        x.item(0, 9);
        x.step(2);
        x.take(3);
        CHECK.toldIs(x, 3, 2, 2, -1, 9, 0, -1, 6);
    }

    // known: 3 its items, 4 the item in front (-1 none), 5 and 6 the next belts (-1 none)
    private static void knownOfAnEmptyBelt() {
        BeltRows x = Rows.withBelts(10, 10, 10, 10);
        CHECK.knownIs(x, 0, 10, 10, 1, 0, -1, -1, -1, 0, 0);
        x.join(0, 0, 1, 1);
        x.item(0, 1);
        CHECK.knownIs(x, 0, 10, 10, 1, 1, 1, 1, -1, 0, 0);
        x.step(2);
        CHECK.knownIs(x, 0, 10, 10, 1, 0, -1, 1, -1, 1, 0);
        CHECK.knownIs(x, 1, 10, 10, 1, 1, 1, -1, -1, 0, 0);
        x.step(1);
        CHECK.knownIs(x, 1, 10, 10, 1, 0, -1, -1, -1, 0, 0);
    }

    // order: the i-th item that went out. NoSuchElementException: there were not so many
    private static void orderOfWhatWentOut() {
        BeltRows x = Rows.withBelts(10, 10, 30, 10);
        x.item(1, 1);
        x.item(0, 1);
        CHECK.fails("none yet", MISSING, () -> x.order(0));
        x.step(2);
        CHECK.is("the first", x.order(0), 2);
        CHECK.fails("the second is not out yet", MISSING, () -> x.order(1));
        x.step(2);
        CHECK.is("the second", x.order(1), 1);
        CHECK.fails("no third", MISSING, () -> x.order(2));
        CHECK.fails("none before the first", MISSING, () -> x.order(-1));
    }

    // mean: .. divided by how many these are (rests are dropped). ArithmeticException: none did
    private static void meanDropsRests() {
        BeltRows x = Rows.withBelts(10, 10, 20, 10, 30, 10);
        CHECK.fails("no item at all", ArithmeticException.class, () -> x.mean());
        x.item(0, 1);
        x.step(1);
        CHECK.fails("one on a belt", ArithmeticException.class, () -> x.mean());
        x.step(1);
        CHECK.is("2 by 1", x.mean(), 2);
        x.item(1, 1);
        x.step(3);
        CHECK.is("5 by 2", x.mean(), 2);
        x.item(2, 1);
        x.step(3);
        CHECK.is("what is on belts does not count", x.mean(), 2);
        x.step(1);
        CHECK.is("9 by 3", x.mean(), 3);
        x.item(0, 1);
        x.take(4);
        CHECK.is("what was taken does not count", x.mean(), 3);
        x.item(0, 1);
        x.step(2);
        CHECK.is("11 by 4", x.mean(), 2);
    }

    // count: -1 for another what
    private static void countOfAnotherWhat() {
        BeltRows x = new BeltRows();
        CHECK.countIs(x, 0, 0, 0, 0, 0, 0, 0, 0, -1, -1);
        for (int what : new int[] {Integer.MIN_VALUE, -2, -1, 8, 9, 100, Integer.MAX_VALUE}) {
            CHECK.is("count(" + what + ")", x.count(what), -1);
        }
    }

    // An object is used for at most 512 calls
    private static void manyCalls() {
        BeltRows x = Rows.withBelts(10000, 1000);
        for (int scanner = 0; scanner < 4; scanner++) {
            x.scanner(0, 1000, 20);
        }
        x.item(0, 1);
        int edges = 0;
        for (int i = 0; i < 250; i++) {
            edges += x.step(1);
            x.slip(1, 1000);
        }
        CHECK.is("230 seconds of four reads each", edges, 920);
        CHECK.is("the rest is to come", x.count(7), 80);
        CHECK.edgeIs(x, 919, 250, 0, 1, 3);
        BeltRows y = Rows.withBelts(1, 0);
        y.item(0, 1);
        for (int i = 0; i < 507; i++) {
            y.step(100);
        }
        y.run(0, 1, true);
        y.step(2);
        CHECK.is("the longest stay", y.mean(), 50702);
    }
}
