/** Promise 5: recover, its answers; Promise05RecoveringTest has what the terms say of RECOVERING. */
public final class Promise05RecoverTest {

    public static void main(String[] args) {
        Sentences promise = new Sentences("Promise 5: recover");
        promise.says("Recovery to a row: how many units are synced then", "none", Promise05RecoverTest::noneSynced);
        promise.says("how many units are synced then", "all 60", Promise05RecoverTest::allSynced);
        promise.says("how many units are synced then", "not those synced behind until",
            Promise05RecoverTest::syncedThen);
        promise.says("-2 no such image", "without any", Promise05RecoverTest::noImages);
        promise.says("-2 no such image", "too small", Promise05RecoverTest::imageTooSmall);
        promise.says("-2 no such image", "too large", Promise05RecoverTest::imageTooLarge);
        promise.says("or it is never good again", "END is behind until by one row", Promise05RecoverTest::neverGood);
        promise.says("or it is never good again", "though as many rows are there again",
            Promise05RecoverTest::neverAgain);
        promise.says("-4 until is behind the latest row", "by one row, or far", Promise05RecoverTest::untilTooLarge);
        promise.says("-4 until is behind the latest row", "numbers of 64 bits", Promise05RecoverTest::untilWrapsNot);
        promise.says("or ahead of the image's END", "by one row, or far", Promise05RecoverTest::untilTooSmall);
        promise.says("or ahead of the image's END", "END of a fuzzy image, not START",
            Promise05RecoverTest::untilInSpan);
        String missing = "-10 minus the least row that is needed and missing";
        promise.says(missing, "row 1", Promise05RecoverTest::missingFirst);
        promise.says(missing, "row 2000", Promise05RecoverTest::missingLast);
        promise.says(missing, "the least of several", Promise05RecoverTest::missingLeast);
        promise.says(missing, "torn in one copy is not missing", Promise05RecoverTest::tornInOneCopy);
        promise.says(missing, "archived rows, too", Promise05RecoverTest::missingArchived);
        String room = "NONE when there is no room for the rows of backing out";
        promise.says(room, "room for just as many", Promise05RecoverTest::justRoom);
        promise.says(room, "one row too few", Promise05RecoverTest::noRoom);
        promise.says(room, "a full log without open units", Promise05RecoverTest::fullWithoutOpen);
        promise.says(room, "rows that are gone give room", Promise05RecoverTest::roomOfRowsGone);
        promise.says("the first of these", "-2 ahead of -4, -10 and NONE", Promise05RecoverTest::noImageFirst);
        promise.says("the first of these", "-4 ahead of -10 and NONE", Promise05RecoverTest::untilNext);
        promise.says("the first of these", "-10 ahead of NONE", Promise05RecoverTest::missingNext);
        String nothing = "then nothing changes (but that a fuzzy image is finished)";
        promise.says(nothing, "behind -2, -4 and -10", Promise05RecoverTest::nothingChanges);
        promise.says(nothing, "behind NONE", Promise05RecoverTest::nothingChangesWithoutRoom);
        promise.says(nothing, "finished by -2", Promise05RecoverTest::finishedByNoImage);
        promise.says(nothing, "finished by -4", Promise05RecoverTest::finishedByUntil);
        promise.says(nothing, "finished by -10", Promise05RecoverTest::finishedByMissing);
        promise.says(nothing, "finished by NONE", Promise05RecoverTest::finishedByNoRoom);
        promise.end();
    }

    private static LogForward withImage() {
        LogForward x = new LogForward(1);
        Check.images(x, 1);
        return x;
    }

    private static void noneSynced() {
        LogForward x = withImage();
        Check.due("of an empty log", x.recover(1, 0), 0);
        Check.countUp(x, 1, 0, 2);
        Check.countUp(x, 2, 1, 2);
        Check.due("backout(2)", x.backout(2), 2);
        Check.due("those that are backed out are not", x.recover(1, 7), 0);
        Check.due("count(3)", x.count(3), 0);
    }

    private static void allSynced() {
        LogForward x = withImage();
        for (int unit = 1; unit <= 60; unit++) {
            Check.syncedUnit(x, unit, 0, unit);
        }
        Check.due("recover(1, 120)", x.recover(1, 120), 60);
        Check.due("recover(1, 119)", x.recover(1, 119), 59);
        Check.due("count(3)", x.count(3), 59);
        Check.due("get(0)", x.get(0), 59);
    }

    private static void syncedThen() {
        LogForward x = withImage();
        Check.syncedUnit(x, 1, 0, 5);
        Check.due("an image behind a syncpoint", x.copy(false), 2);
        Check.syncedUnit(x, 2, 1, 6);
        Check.due("ahead of START, too", x.recover(2, 4), 2);
        Check.due("behind until not", x.recover(2, 3), 1);
        Check.due("count(3)", x.count(3), 1);
        Check.due("recover(1, 1)", x.recover(1, 1), 0);
        Check.due("count(3)", x.count(3), 0);
    }

    private static void noImages() {
        LogForward x = new LogForward(1);
        for (int image = -1; image <= 21; image++) {
            Check.due("recover(" + image + ", 0)", x.recover(image, 0), -2);
        }
        Check.countUp(x, 1, 0, 1);
        Check.dueRefused("recover(1, 1)", x, -2, () -> x.recover(1, 1));
    }

    private static void imageTooSmall() {
        LogForward x = withImage();
        int[] small = {0, -1, -20, Integer.MIN_VALUE + 1, Integer.MIN_VALUE};
        for (int image : small) {
            Check.due("image " + image, x.recover(image, 0), -2);
        }
    }

    private static void imageTooLarge() {
        LogForward x = withImage();
        int[] large = {2, 3, 20, 21, 22, Integer.MAX_VALUE - 1, Integer.MAX_VALUE};
        for (int image : large) {
            Check.due("image " + image, x.recover(image, 0), -2);
        }
        Check.due("copy(false)", x.copy(false), 2);
        Check.due("image 2", x.recover(2, 0), 0);
        Check.due("image 3", x.recover(3, 0), -2);
    }

    private static void neverGood() {
        LogForward x = withImage();
        Check.countUp(x, 1, 0, 3);
        Check.due("END 3", x.copy(false), 2);
        Check.countUp(x, 1, 0, 1);
        Check.due("END 4", x.copy(false), 3);
        Check.due("recover(1, 3)", x.recover(1, 3), 0);
        Check.due("END behind until", x.recover(3, 7), -2);
        Check.due("END is until", x.recover(2, 7), 0);
    }

    private static void neverAgain() {
        LogForward x = withImage();
        Check.syncedUnit(x, 1, 0, 5);
        Check.due("copy(false)", x.copy(false), 2);
        Check.due("recover(1, 0)", x.recover(1, 0), 0);
        Check.due("recover(2, 0)", x.recover(2, 0), -2);
        Check.syncedUnit(x, 1, 0, 5);
        Check.syncedUnit(x, 2, 0, 6);
        for (int until = 0; until <= 4; until++) {
            Check.due("recover(2, " + until + ")", x.recover(2, until), -2);
        }
        Check.due("a new one is good", x.copy(false), 3);
        Check.due("recover(3, 4)", x.recover(3, 4), 2);
    }

    private static void untilTooLarge() {
        LogForward x = withImage();
        Check.due("of an empty log", x.recover(1, 1), -4);
        Check.syncedUnit(x, 1, 0, 5);
        long[] large = {3, 4, 2000, 2001, Integer.MAX_VALUE, Long.MAX_VALUE - 1, Long.MAX_VALUE};
        for (long until : large) {
            Check.due("recover(1, " + until + ")", x.recover(1, until), -4);
        }
        Check.due("the latest row itself", x.recover(1, 2), 1);
    }

    /** Each of these has 0, 1 or 2 as its lowest 32 bits. */
    private static void untilWrapsNot() {
        LogForward x = withImage();
        Check.syncedUnit(x, 1, 0, 5);
        long[] wide = {1L << 32, (1L << 32) + 1, (1L << 32) + 2, (1L << 62) + 1, (1L << 63) + 2, -(1L << 32),
            -(1L << 32) + 1};
        for (long until : wide) {
            Check.due("recover(1, " + until + ")", x.recover(1, until), -4);
        }
        Check.due("count(0)", x.count(0), 2);
    }

    private static void untilTooSmall() {
        LogForward x = new LogForward(1);
        Check.countUp(x, 1, 0, 3);
        Check.images(x, 1);
        Check.countUp(x, 1, 0, 2);
        long[] small = {2, 1, 0, -1, Integer.MIN_VALUE, Long.MIN_VALUE + 1, Long.MIN_VALUE};
        for (long until : small) {
            Check.due("recover(1, " + until + ")", x.recover(1, until), -4);
        }
        Check.due("END itself", x.recover(1, 3), 0);
        Check.due("-1 of an empty log", withImage().recover(1, -1), -4);
    }

    private static void untilInSpan() {
        LogForward x = new LogForward(1);
        Check.countUp(x, 1, 0, 1);
        Check.due("copy(true)", x.copy(true), 1);
        Check.countUp(x, 1, 0, 8);
        for (int until = 0; until <= 5; until++) {
            Check.due("recover(1, " + until + ")", x.recover(1, until), -4);
        }
        Check.due("recover(1, 6)", x.recover(1, 6), 0);
    }

    private static void missingFirst() {
        LogForward x = withImage();
        Check.syncedUnit(x, 1, 0, 5);
        Check.tearBoth(x, 1);
        Check.due("recover(1, 2)", x.recover(1, 2), -11);
        Check.due("recover(1, 1)", x.recover(1, 1), -11);
        Check.due("not needed", x.recover(1, 0), 0);
    }

    private static void missingLast() {
        LogForward x = Check.longLog(2000);
        Check.tearBoth(x, 2000);
        Check.due("recover(1, 2000)", x.recover(1, 2000), -2010);
        Check.tearBoth(x, 1999);
        Check.due("recover(1, 2000)", x.recover(1, 2000), -2009);
    }

    private static void missingLeast() {
        LogForward x = withImage();
        Check.syncedUnit(x, 1, 0, 5);
        Check.countUp(x, 2, 1, 1);
        Check.syncedUnit(x, 3, 0, 6);
        Check.tearBoth(x, 5);
        Check.due("recover(1, 5)", x.recover(1, 5), -15);
        Check.tearBoth(x, 2);
        Check.tearBoth(x, 4);
        Check.due("recover(1, 5)", x.recover(1, 5), -12);
        Check.due("copy(false)", x.copy(false), 2);
        Check.due("not needed from there", x.recover(2, 5), 2);
        Check.due("count(0)", x.count(0), 7);
    }

    private static void tornInOneCopy() {
        LogForward x = withImage();
        Check.syncedUnit(x, 1, 0, 5);
        Check.countUp(x, 2, 1, 1);
        for (int row = 1; row <= 3; row++) {
            Check.due("torn", x.torn(row % 2, row), 1);
        }
        Check.due("recover(1, 3)", x.recover(1, 3), 1);
        Check.due("get(0)", x.get(0), 5);
        Check.due("get(1)", x.get(1), 0);
    }

    private static void missingArchived() {
        LogForward x = withImage();
        Check.syncedUnit(x, 1, 0, 5);
        Check.tearBoth(x, 2);
        Check.due("archive(2)", x.archive(2), 2);
        Check.due("recover(1, 2)", x.recover(1, 2), -12);
    }

    private static void justRoom() {
        LogForward x = Check.longLog(1997);
        Check.countUp(x, 2, 5, 1);
        Check.due("a change and an end", x.recover(1, 1998), 0);
        Check.due("count(0)", x.count(0), 2000);
        Check.due("get(5)", x.get(5), 0);
        Check.dueRow(x, 2000, 2, 2, -1, 0, 0, 0, 1);

        LogForward y = Check.longLog(1993);
        Check.countUp(y, 2, 5, 2);
        Check.countUp(y, 3, 6, 1);
        Check.due("one row too few", y.recover(1, 1996), -1);
        Check.due("ahead of 3's change", y.recover(1, 1995), 0);
        Check.due("count(0)", y.count(0), 1998);
    }

    private static void noRoom() {
        LogForward x = Check.longLog(1998);
        Check.countUp(x, 2, 5, 1);
        Check.due("room for the change, not for the end", x.recover(1, 1999), -1);
        Check.countUp(x, 2, 5, 1);
        Check.due("room for none", x.recover(1, 2000), -1);
        Check.due("warm()", x.warm(), 1);
        Check.due("count(0)", x.count(0), 2000);
    }

    private static void fullWithoutOpen() {
        LogForward x = Check.longLog(2000);
        Check.due("recover(1, 2000)", x.recover(1, 2000), 0);
        Check.due("count(0)", x.count(0), 2000);
    }

    private static void roomOfRowsGone() {
        LogForward x = Check.longLog(2000);
        Check.due("201 rows find 200 places", x.recover(1, 1800), -1);
        Check.due("201 rows find 201 places", x.recover(1, 1799), 0);
        Check.due("count(0)", x.count(0), 2000);
    }

    private static void noImageFirst() {
        LogForward x = withImage();
        Check.countUp(x, 1, 0, 1);
        Check.due("copy(false)", x.copy(false), 2);
        Check.due("recover(1, 0)", x.recover(1, 0), 0);
        Check.countUp(x, 1, 0, 1);
        Check.due("no such image, ahead of -4", x.recover(3, 9), -2);
        Check.due("no such image, ahead of -4", x.recover(0, -1), -2);
        Check.due("never good again, ahead of -4", x.recover(2, 9), -2);
        Check.due("never good again, ahead of -4", x.recover(2, 0), -2);
        Check.tearBoth(x, 1);
        Check.due("no such image, ahead of -10", x.recover(3, 1), -2);
        Check.due("never good again, ahead of -10", x.recover(2, 1), -2);
        LogForward y = Check.longLog(1999);
        Check.countUp(y, 2, 5, 1);
        Check.due("no such image, ahead of NONE", y.recover(2, 2000), -2);
    }

    private static void untilNext() {
        LogForward x = withImage();
        Check.countUp(x, 1, 0, 2);
        Check.due("copy(false)", x.copy(false), 2);
        Check.tearBoth(x, 1);
        Check.due("behind the latest, ahead of -10", x.recover(1, 3), -4);
        Check.due("ahead of END, ahead of -10", x.recover(2, 1), -4);
        LogForward y = Check.longLog(1999);
        Check.countUp(y, 2, 5, 1);
        Check.due("copy(false)", y.copy(false), 2);
        Check.due("behind the latest, ahead of NONE", y.recover(1, 2001), -4);
        Check.due("ahead of END, ahead of NONE", y.recover(2, 1999), -4);
    }

    private static void missingNext() {
        LogForward x = Check.longLog(1999);
        Check.countUp(x, 2, 5, 1);
        Check.due("no room", x.recover(1, 2000), -1);
        Check.tearBoth(x, 2000);
        Check.due("row 2000", x.recover(1, 2000), -2010);
        Check.tearBoth(x, 1);
        Check.due("row 1", x.recover(1, 2000), -11);
    }

    /** Image 1 of row 0, image 2 of row 1; unit 1 open, unit 2 synced; rows 1 and 2 archived, row 3 missing. */
    private static LogForward busy() {
        LogForward x = withImage();
        Check.countUp(x, 1, 0, 1);
        Check.due("copy(false)", x.copy(false), 2);
        Check.countUp(x, 1, 0, 1);
        Check.due("archive(2)", x.archive(2), 2);
        Check.syncedUnit(x, 2, 1, 3);
        Check.tearBoth(x, 3);
        return x;
    }

    private static void nothingChanges() {
        LogForward x = busy();
        Check.dueRefused("recover(3, 1)", x, -2, () -> x.recover(3, 1));
        Check.dueRefused("recover(1, 5)", x, -4, () -> x.recover(1, 5));
        LogForward y = busy();
        Check.dueRefused("recover(2, 0)", y, -4, () -> y.recover(2, 0));
        Check.dueRefused("recover(1, 3)", y, -13, () -> y.recover(1, 3));
        Check.due("2 is over", y.row(2, 5, 0, 1), -5);
        Check.due("1 is open and has changed 0", y.row(3, 0, 2, 1), -3);
        Check.due("1 may change it", y.row(1, 0, 2, 4), 5);
        Check.due("image 2 is good", y.recover(2, 2), 0);
        Check.due("image 1 is good", y.recover(1, 1), 0);
    }

    private static void nothingChangesWithoutRoom() {
        LogForward x = Check.longLog(1999);
        Check.countUp(x, 2, 5, 1);
        Check.dueRefused("recover(1, 2000)", x, -1, () -> x.recover(1, 2000));
        Check.due("2 is open and has changed 5", x.row(3, 5, 1, 2), -3);
        Check.due("1 is over", x.row(1, 6, 0, 1), -5);
        Check.due("image 1 is good", x.recover(1, 0), 0);
    }

    /** A fuzzy image 2 of row 2 with two rows behind, so that END is 4 if it is finished now. */
    private static LogForward withFuzzy() {
        LogForward x = withImage();
        Check.countUp(x, 1, 0, 2);
        Check.due("copy(true)", x.copy(true), 2);
        Check.countUp(x, 1, 0, 2);
        return x;
    }

    private static void dueFinishedAtFour(LogForward x) {
        Check.countUp(x, 1, 0, 2);
        Check.due("recover(2, 3)", x.recover(2, 3), -4);
        Check.due("recover(2, 4)", x.recover(2, 4), 0);
    }

    private static void finishedByNoImage() {
        LogForward x = withFuzzy();
        Check.due("recover(3, 4)", x.recover(3, 4), -2);
        dueFinishedAtFour(x);
    }

    private static void finishedByUntil() {
        LogForward x = withFuzzy();
        Check.due("recover(1, 5)", x.recover(1, 5), -4);
        dueFinishedAtFour(x);
    }

    /** Row 1 stays missing, so that -10 minus 1 tells where until is not ahead of END. */
    private static void finishedByMissing() {
        LogForward x = withFuzzy();
        Check.tearBoth(x, 1);
        Check.due("recover(1, 4)", x.recover(1, 4), -11);
        Check.countUp(x, 1, 0, 2);
        Check.due("sync(1)", x.sync(1), 7);
        Check.due("END is not behind 6", x.recover(2, 6), -11);
        Check.due("nor behind 4", x.recover(2, 4), -11);
        Check.due("but behind 3", x.recover(2, 3), -4);
    }

    private static void finishedByNoRoom() {
        LogForward x = Check.longLog(1996);
        Check.due("copy(true)", x.copy(true), 2);
        Check.countUp(x, 2, 5, 2);
        Check.due("no room", x.recover(1, 1998), -1);
        Check.countUp(x, 2, 5, 2);
        Check.due("END is 1998", x.recover(2, 1997), -4);
        Check.due("not behind it", x.recover(2, 1998), -1);
    }
}
