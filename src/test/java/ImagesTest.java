/** Promises 18 to 27: build, sign, flash, imageOf, versionIn, images, isFit, isTested, failed, atLarge. */
public final class ImagesTest {
    public static void main(String[] args) {
        buildTakesWhatIsIn();
        buildFindsTheSame();
        buildTellsKindsApart();
        buildCountsRecalledUnits();
        buildsUpToForty();
        buildRefuses();
        signIsForOneCar();
        signRefuses();
        flashGivesTheImageBefore();
        flashAtWhichStations();
        flashEndsTheTest();
        flashForgetsATestThatFailed();
        flashRefuses();
        versionInRefuses();
        fitNeedsAllOfIt();
        fitLooksAtSoftwareAlone();
        theTestLooksAtFitAlone();
        theImageMustBeForWhatIsInNow();
        aCarThatNeedsNothingIsTestedToo();
        aCarThatLeftCanBeUnfit();
        atLargeCountsCarsOnce();
        questionsRefuse();
        Check.end();
    }

    private static void versions(TaktLine line, int image, int first, int second) {
        Check.same("versionIn(" + image + ", 0)", line.versionIn(image, 0), first);
        Check.same("versionIn(" + image + ", 1)", line.versionIn(image, 1), second);
        for (int k = 2; k < 10; k++) {
            Check.same("versionIn(" + image + ", " + k + ")", line.versionIn(image, k), 0);
        }
    }

    private static void buildTakesWhatIsIn() {
        TaktLine line = Lines.soft(1);
        Check.same("build for a car with nothing in it", line.build(0), 0);
        versions(line, 0, 0, 0);
        line.takt(1);
        Check.same("build for the first kind", line.build(0), 1);
        versions(line, 1, 11, 0);
        line.takt(1);
        Check.same("build for both", line.build(0), 2);
        versions(line, 2, 11, 22);
        line.takt(1);
        Check.same("a kind without software is no matter", line.build(0), 2);
        Check.same("images", line.images(), 3);
        Check.same("build lets no car hold it", line.imageOf(0), TaktLine.NONE);
    }

    private static void buildFindsTheSame() {
        TaktLine line = Lines.soft(3);
        line.takt(3);
        Check.same("build for the third", line.build(2), 0);
        Check.same("build for the first", line.build(0), 1);
        Check.same("build for the second", line.build(1), 1);
        Check.same("build again", line.build(2), 0);
        Check.same("images", line.images(), 2);
        line.takt(1);
        Check.same("the third is as the first", line.build(2), 1);
        Check.same("images", line.images(), 2);
    }

    // The same version of another kind, and another lot of the same version.
    private static void buildTellsKindsApart() {
        TaktLine line = new TaktLine();
        line.kind(3, 0, 1, 0, true);
        line.kind(4, 0, 2, 0, true);
        line.lot(3, 5, 1);
        line.lot(4, 5, 1);
        line.lot(3, 5, 1);
        line.lot(3, 6, 1);
        line.order(1);
        line.order(2);
        line.order(1);
        line.order(1);
        line.takt(4);
        Check.same("build", line.build(0), 0);
        Check.same("build for another kind", line.build(1), 1);
        Check.same("build for another lot of the version", line.build(2), 0);
        Check.same("build for another version", line.build(3), 2);
        Check.same("versionIn", line.versionIn(0, 3), 5);
        Check.same("versionIn", line.versionIn(0, 4), 0);
        Check.same("versionIn", line.versionIn(1, 3), 0);
        Check.same("versionIn", line.versionIn(1, 4), 5);
        Check.same("versionIn", line.versionIn(2, 3), 6);
    }

    private static void buildCountsRecalledUnits() {
        TaktLine line = Lines.soft(1);
        line.takt(1);
        line.recall(0);
        Check.same("build with a recalled unit", line.build(0), 0);
        versions(line, 0, 11, 0);
        line.takt(1);
        Check.same("build without it", line.build(0), 1);
        versions(line, 1, 0, 0);
    }

    private static void buildsUpToForty() {
        TaktLine line = new TaktLine();
        line.kind(0, 0, 0, 0, true);
        line.kind(1, 1, 0, 0, true);
        line.order(0);
        line.order(0);
        Check.same("image 0", line.build(0), 0);
        for (int l = 0; l < 38; l++) {
            line.lot(0, 1 + l, 1);
            line.takt(1);
            Check.same("next image", line.build(0), 1 + l);
            line.recall(l);
        }
        line.lot(0, 90, 2);
        line.lot(1, 90, 1);
        line.takt(1);
        Check.same("image 39", line.build(0), 39);
        Check.same("images", line.images(), 40);
        line.takt(1);
        Check.refusesState("image 40", line, () -> line.build(0));
        Check.same("one that is there already", line.build(1), 39);
        Check.refusesIndex("no such car at image 40", line, () -> line.build(2));
        Check.same("images", line.images(), 40);
    }

    private static void buildRefuses() {
        TaktLine line = Lines.soft(0);
        Check.refusesIndex("build with no car", line, () -> line.build(0));
        line.order(0);
        for (int car : new int[] {-1, 1, 30, Lines.MIN, Lines.MAX}) {
            Check.refusesIndex("build " + car, line, () -> line.build(car));
        }
    }

    private static void signIsForOneCar() {
        TaktLine line = Lines.soft(0);
        for (int c = 0; c < 30; c++) {
            line.order(0);
        }
        line.build(0);
        line.takt(2);
        line.build(0);
        for (int i = 0; i < 2; i++) {
            for (int c = 29; c >= 0; c--) {
                Check.same("sign(" + i + ", " + c + ")", line.sign(i, c), true);
            }
        }
        for (int c = 0; c < 30; c++) {
            Check.same("sign again", line.sign(1, c), false);
        }
    }

    private static void signRefuses() {
        TaktLine line = Lines.soft(2);
        Check.refusesIndex("sign with no image", line, () -> line.sign(0, 0));
        line.build(0);
        for (int bad : new int[] {-1, 2, 30, 40, Lines.MIN, Lines.MAX}) {
            Check.refusesIndex("sign, car " + bad, line, () -> line.sign(0, bad));
            Check.refusesIndex("sign, image " + bad, line, () -> line.sign(bad, 0));
            Check.refusesIndex("sign, both " + bad, line, () -> line.sign(bad, bad));
        }
        Check.refusesIndex("sign, image 1", line, () -> line.sign(1, 0));
        Check.same("sign, car 1", line.sign(0, 1), true);
        Check.same("sign, car 0", line.sign(0, 0), true);
    }

    private static void flashGivesTheImageBefore() {
        TaktLine line = Lines.soft(1);
        line.build(0);
        line.takt(6);
        line.build(0);
        Check.same("imageOf at first", line.imageOf(0), TaktLine.NONE);
        Check.same("first flash", line.flash(0, 1), TaktLine.NONE);
        Check.same("imageOf", line.imageOf(0), 1);
        Check.same("second flash", line.flash(0, 0), 1);
        Check.same("imageOf", line.imageOf(0), 0);
        Check.same("third flash", line.flash(0, 0), 0);
    }

    private static void flashAtWhichStations() {
        TaktLine line = Lines.soft(2);
        line.build(0);
        Check.refusesState("flash of an ordered car", line, () -> line.flash(0, 0));
        for (int s = 0; s < 5; s++) {
            line.takt(1);
            Check.refusesState("flash at the station " + s, line, () -> line.flash(0, 0));
        }
        line.takt(1);
        Check.same("flash at the station 5", line.flash(0, 0), TaktLine.NONE);
        line.takt(1);
        Check.same("at the station 6", line.stationOf(0), 6);
        line.takt(1);
        Check.same("in the lane for the station 5", line.whereIs(0), TaktLine.LANE);
        Check.refusesState("flash in the lane", line, () -> line.flash(0, 0));
        Lines.flashSigned(line, 1);
        line.takt(1);
        Check.same("flash at the station 6", line.flash(1, 1), 1);
        Check.same("flash at the station 5", line.flash(0, 1), 0);
        line.takt(2);
        Check.same("at the station 7", line.stationOf(1), 7);
        Check.same("flash at the station 7", line.flash(1, 1), 1);
    }

    private static void flashEndsTheTest() {
        TaktLine line = Lines.soft(1);
        line.takt(6);
        Lines.flashSigned(line, 0);
        line.takt(1);
        Check.same("tested", line.isTested(0), true);
        line.flash(0, 0);
        Check.same("not tested at the station 6", line.isTested(0), false);
        line.takt(2);
        Check.same("tested", line.isTested(0), true);
        line.flash(0, 0);
        Check.same("not tested at the station 7", line.isTested(0), false);
        Check.same("it does not leave", line.takt(1), 0);
    }

    private static void flashForgetsATestThatFailed() {
        TaktLine line = Lines.soft(1);
        line.takt(6);
        int image = line.build(0);
        line.flash(0, image);
        line.takt(1);
        Check.same("failed", line.failed(), 1);
        line.flash(0, image);
        line.takt(1);
        Check.same("it stays at the station 6", line.stationOf(0), 6);
        Check.same("it is on the line", line.whereIs(0), TaktLine.ON_LINE);
        Check.same("and failed again", line.failed(), 2);
        line.sign(image, 0);
        line.flash(0, image);
        line.takt(1);
        Check.same("and passes there", line.isTested(0), true);
        line.takt(1);
        Check.same("and moves on", line.stationOf(0), 7);
    }

    private static void flashRefuses() {
        TaktLine line = Lines.soft(2);
        Check.refusesIndex("flash with no image", line, () -> line.flash(0, 0));
        line.takt(6);
        line.build(0);
        for (int bad : new int[] {-1, 2, 30, 40, Lines.MIN, Lines.MAX}) {
            Check.refusesIndex("flash, car " + bad, line, () -> line.flash(bad, 0));
            Check.refusesIndex("flash, image " + bad, line, () -> line.flash(0, bad));
            Check.refusesIndex("flash of a car at 4, image " + bad, line, () -> line.flash(1, bad));
        }
        Check.refusesState("flash at the station 4", line, () -> line.flash(1, 0));
        Lines.flashSigned(line, 0);
        line.takt(3);
        Check.same("it left", line.whereIs(0), TaktLine.LEFT);
        Check.refusesState("flash of a car that left", line, () -> line.flash(0, 0));
    }

    private static void versionInRefuses() {
        TaktLine line = Lines.soft(1);
        Check.refusesIndex("versionIn with no image", line, () -> line.versionIn(0, 0));
        line.build(0);
        for (int image : new int[] {-1, 1, 40, Lines.MIN, Lines.MAX}) {
            Check.refusesIndex("versionIn, image " + image, line, () -> line.versionIn(image, 0));
        }
        for (int kind : new int[] {-1, 10, Lines.MIN, Lines.MAX}) {
            Check.refusesIndex("versionIn, kind " + kind, line, () -> line.versionIn(0, kind));
        }
    }

    private static void fitNeedsAllOfIt() {
        TaktLine line = Lines.soft(2);
        line.takt(6);
        int image = line.build(0);
        Check.same("fit without an image", line.isFit(0), false);
        line.flash(0, image);
        Check.same("fit without its sign", line.isFit(0), false);
        line.sign(image, 1);
        Check.same("fit with another's sign", line.isFit(0), false);
        line.sign(image, 0);
        Check.same("fit", line.isFit(0), true);
        Check.same("not tested yet", line.isTested(0), false);
        line.recall(1);
        Check.same("fit with a recalled unit", line.isFit(0), false);
    }

    private static void fitLooksAtSoftwareAlone() {
        TaktLine line = Lines.soft(1);
        line.takt(6);
        Lines.flashSigned(line, 0);
        line.recall(2);
        Check.same("lacks", line.lacks(0), 4);
        Check.same("fit with a kind without software lacking", line.isFit(0), true);
    }

    // A fit car that lacks a kind without software would pass a test, but goes back before it moves on.
    private static void theTestLooksAtFitAlone() {
        TaktLine line = Lines.soft(1);
        line.takt(6);
        Lines.flashSigned(line, 0);
        line.takt(2);
        Check.same("at the station 7", line.stationOf(0), 7);
        line.recall(2);
        Check.same("fit", line.isFit(0), true);
        Check.same("tested", line.isTested(0), true);
        Check.same("it does not leave", line.takt(1), 0);
        Check.same("it is back at the station 2", line.stationOf(0), 2);
        Check.same("and on the line", line.whereIs(0), TaktLine.ON_LINE);
    }

    private static void theImageMustBeForWhatIsInNow() {
        TaktLine line = Lines.soft(1);
        line.takt(6);
        Lines.flashSigned(line, 0);
        line.recall(0);
        line.lot(0, 12, 9);
        line.takt(1);
        Check.same("fitted anew", line.lotIn(0, 0), 3);
        Check.same("lacks", line.lacks(0), 0);
        Check.same("fit with the image of the unit before", line.isFit(0), false);
        line.takt(6);
        Check.same("its image lets it move on, and fail", line.failed(), 1);
        Check.same("at the station 6", line.stationOf(0), 6);
        Lines.flashSigned(line, 0);
        Check.same("fit with the next image", line.isFit(0), true);
        versions(line, 1, 12, 22);
        line.recall(3);
        line.lot(0, 11, 9);
        line.takt(7);
        Check.same("fit with a new lot of the old version", line.isFit(0), false);
        line.takt(1);
        line.flash(0, 0);
        Check.same("the image before is for it", line.isFit(0), true);
    }

    private static void aCarThatNeedsNothingIsTestedToo() {
        TaktLine line = new TaktLine();
        line.order(0);
        Check.same("not tested when it is ordered", line.isTested(0), false);
        Check.same("not fit without an image", line.isFit(0), false);
        line.takt(6);
        Check.same("at the station 5", line.stationOf(0), 5);
        Check.same("not tested there", line.isTested(0), false);
        Lines.flashSigned(line, 0);
        Check.same("fit with an image for nothing", line.isFit(0), true);
        Check.same("not tested by being fit", line.isTested(0), false);
        line.takt(1);
        Check.same("tested", line.isTested(0), true);
        Check.same("it leaves", line.takt(2), 1);
    }

    private static void aCarThatLeftCanBeUnfit() {
        TaktLine line = Lines.soft(1);
        line.takt(6);
        Lines.flashSigned(line, 0);
        Check.same("it leaves", line.takt(3), 1);
        Check.same("fit", line.isFit(0), true);
        Check.same("tested", line.isTested(0), true);
        Check.same("imageOf", line.imageOf(0), 0);
        Check.same("build for a car that left", line.build(0), 0);
        line.recall(0);
        Check.same("fit after the recall", line.isFit(0), false);
        Check.same("tested after the recall", line.isTested(0), true);
    }

    private static void atLargeCountsCarsOnce() {
        TaktLine line = Lines.soft(3);
        line.takt(6);
        Lines.flashSigned(line, 0);
        line.takt(1);
        Lines.flashSigned(line, 1);
        line.takt(2);
        Check.same("one has left", line.whereIs(0), TaktLine.LEFT);
        Check.same("atLarge with no recall", line.atLarge(), 0);
        line.recall(2);
        Check.same("atLarge counts those that left alone", line.atLarge(), 1);
        line.recall(0);
        Check.same("atLarge counts each car once", line.atLarge(), 1);
        line.lot(0, 44, 9);
        line.recall(3);
        Check.same("atLarge with a lot in no car", line.atLarge(), 1);
    }

    private static void questionsRefuse() {
        TaktLine line = Lines.soft(0);
        Check.refusesIndex("imageOf with no car", line, () -> line.imageOf(0));
        Check.refusesIndex("isFit with no car", line, () -> line.isFit(0));
        Check.refusesIndex("isTested with no car", line, () -> line.isTested(0));
        line.order(0);
        for (int car : new int[] {-1, 1, 30, Lines.MIN, Lines.MAX}) {
            Check.refusesIndex("imageOf " + car, line, () -> line.imageOf(car));
            Check.refusesIndex("isFit " + car, line, () -> line.isFit(car));
            Check.refusesIndex("isTested " + car, line, () -> line.isTested(car));
        }
    }
}
