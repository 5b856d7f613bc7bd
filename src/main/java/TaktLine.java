import java.util.ArrayList;

public final class TaktLine {
    public static final int NONE = -1;
    public static final int ORDERED = 0, ON_LINE = 1, LANE = 2, LEFT = 3;

    private static final int KINDS = 10;
    private static final int FITTING_STATIONS = 5;
    private static final int FLASH_STATION = 5;
    private static final int TEST_STATION = 6;
    private static final int LAST_STATION = 7;
    private static final int STATIONS = 8;
    private static final int ALL_OPTIONS = 255;
    private static final int MAX_LOTS = 40;
    private static final int MAX_VERSION = 99;
    private static final int MAX_UNITS = 50;
    private static final int MAX_CARS = 30;
    private static final int MAX_IMAGES = 40;
    private static final int MAX_TAKTS = 20;

    private final Kind[] kindRows = new Kind[KINDS];
    private final ArrayList<Lot> lotRows = new ArrayList<Lot>();
    private final ArrayList<Car> carRows = new ArrayList<Car>();
    private final ArrayList<Image> imageRows = new ArrayList<Image>();
    private final ArrayList<Car> lane = new ArrayList<Car>();
    private final ArrayList<Pick> picks = new ArrayList<Pick>();
    private final Car[] line = new Car[STATIONS];
    private int taktCount;
    private int scrapCount;
    private int failCount;

    public TaktLine() {
        for (int k = 0; k < KINDS; k++) {
            kindRows[k] = new Kind();
        }
    }

    // ---- kinds and lots

    public void kind(int kind, int station, int with, int without, boolean hasSoftware)
            throws IndexOutOfBoundsException, IllegalArgumentException, IllegalStateException {
        Kind row = existingKind(kind);
        if (!isFittingStation(station) || !isOptionSet(with) || !isOptionSet(without)) {
            throw new IllegalArgumentException("station, with or without is out of range");
        }
        if (!carRows.isEmpty()) {
            throw new IllegalStateException("there are cars");
        }
        row.station = station;
        row.with = with;
        row.without = without;
        row.software = hasSoftware;
    }

    public int lot(int kind, int version, int units)
            throws IndexOutOfBoundsException, IllegalArgumentException, IllegalStateException {
        checkKind(kind);
        if (version < 1 || version > MAX_VERSION || units < 1 || units > MAX_UNITS) {
            throw new IllegalArgumentException("version or units is out of range");
        }
        int number = lotRows.size();
        if (number >= MAX_LOTS) {
            throw new IllegalStateException("there are 40 lots");
        }
        lotRows.add(new Lot(number, kind, version, units));
        return number;
    }

    public int recall(int lot) throws IndexOutOfBoundsException, IllegalStateException {
        Lot row = existingLot(lot);
        if (row.recalled) {
            throw new IllegalStateException("the lot is recalled");
        }
        row.recalled = true;
        return carsWithUnitOf(row);
    }

    public int units(int lot) throws IndexOutOfBoundsException {
        return existingLot(lot).unitsLeft;
    }

    // ---- cars and takts

    public int order(int options) throws IllegalArgumentException, IllegalStateException {
        if (!isOptionSet(options)) {
            throw new IllegalArgumentException("options is out of range");
        }
        int number = carRows.size();
        if (number >= MAX_CARS) {
            throw new IllegalStateException("there are 30 cars");
        }
        carRows.add(new Car(number, options));
        return number;
    }

    public int takt(int takts) throws IllegalArgumentException {
        if (takts < 1 || takts > MAX_TAKTS) {
            throw new IllegalArgumentException("takts is out of range");
        }
        int leaving = 0;
        for (int t = 0; t < takts; t++) {
            sendBackToLane();
            if (leaveLine()) {
                leaving++;
            }
            moveOn();
            comeFromLane();
            comeFromOrders();
            workOnLine();
            taktCount++;
        }
        return leaving;
    }

    public boolean fault(int car) throws IndexOutOfBoundsException, IllegalStateException {
        Car row = existingCar(car);
        if (row.where == LEFT) {
            throw new IllegalStateException("the car has left");
        }
        boolean isNew = !row.faultTold;
        row.faultTold = true;
        return isNew;
    }

    public int takts() {
        return taktCount;
    }

    public int whereIs(int car) throws IndexOutOfBoundsException {
        return existingCar(car).where;
    }

    public int stationOf(int car) throws IndexOutOfBoundsException {
        return existingCar(car).station;
    }

    public int carAt(int station) throws IllegalArgumentException {
        if (!isStation(station)) {
            throw new IllegalArgumentException("station is out of range");
        }
        Car row = line[station];
        return row == null ? NONE : row.number;
    }

    // ---- what is in cars

    public int needs(int car) throws IndexOutOfBoundsException {
        return neededKinds(existingCar(car));
    }

    public int lacks(int car) throws IndexOutOfBoundsException {
        return lackingKinds(existingCar(car));
    }

    public int lotIn(int car, int kind) throws IndexOutOfBoundsException {
        Car row = existingCar(car);
        checkKind(kind);
        Lot unit = row.unitOf[kind];
        return unit == null ? NONE : unit.number;
    }

    public int lotByPicks(int car, int kind) throws IndexOutOfBoundsException {
        checkCar(car);
        checkKind(kind);
        int lot = NONE;
        for (int i = 0; i < picks.size(); i++) {
            Pick pick = picks.get(i);
            if (pick.car == car && pick.kind == kind) {
                lot = pick.lot;
            }
        }
        return lot;
    }

    public int scrapped() {
        return scrapCount;
    }

    // ---- images

    public int build(int car) throws IndexOutOfBoundsException, IllegalStateException {
        Car row = existingCar(car);
        for (int i = 0; i < imageRows.size(); i++) {
            if (isBuiltFor(imageRows.get(i), row)) {
                return i;
            }
        }
        int number = imageRows.size();
        if (number >= MAX_IMAGES) {
            throw new IllegalStateException("there are 40 images");
        }
        imageRows.add(imageFor(row, number));
        return number;
    }

    public boolean sign(int image, int car) throws IndexOutOfBoundsException {
        Image row = existingImage(image);
        checkCar(car);
        boolean isNew = !row.isSignedFor(car);
        row.signedCars |= 1 << car;
        return isNew;
    }

    public int flash(int car, int image) throws IndexOutOfBoundsException, IllegalStateException {
        Car row = existingCar(car);
        Image next = existingImage(image);
        if (row.where != ON_LINE || row.station < FLASH_STATION) {
            throw new IllegalStateException("the car is not on the line at a station from 5 to 7");
        }
        Image before = row.image;
        row.image = next;
        row.tested = false;
        row.testFailed = false;
        return before == null ? NONE : before.number;
    }

    public int imageOf(int car) throws IndexOutOfBoundsException {
        Image image = existingCar(car).image;
        return image == null ? NONE : image.number;
    }

    public int versionIn(int image, int kind) throws IndexOutOfBoundsException {
        Image row = existingImage(image);
        checkKind(kind);
        return row.versions[kind];
    }

    public int images() {
        return imageRows.size();
    }

    public boolean isFit(int car) throws IndexOutOfBoundsException {
        return fits(existingCar(car));
    }

    public boolean isTested(int car) throws IndexOutOfBoundsException {
        return existingCar(car).tested;
    }

    public int failed() {
        return failCount;
    }

    public int atLarge() {
        int count = 0;
        for (int c = 0; c < carRows.size(); c++) {
            Car car = carRows.get(c);
            if (car.where == LEFT && car.hasRecalledUnit()) {
                count++;
            }
        }
        return count;
    }

    // ---- arguments

    private static boolean isFittingStation(int station) {
        return station >= 0 && station < FITTING_STATIONS;
    }

    private static boolean isStation(int station) {
        return station >= 0 && station < STATIONS;
    }

    private static boolean isOptionSet(int options) {
        return options >= 0 && options <= ALL_OPTIONS;
    }

    private static void checkKind(int kind) {
        if (kind < 0 || kind >= KINDS) {
            throw new IndexOutOfBoundsException("there is no such kind");
        }
    }

    private void checkCar(int car) {
        if (car < 0 || car >= carRows.size()) {
            throw new IndexOutOfBoundsException("there is no such car");
        }
    }

    private Kind existingKind(int kind) {
        checkKind(kind);
        return kindRows[kind];
    }

    private Lot existingLot(int lot) {
        if (lot < 0 || lot >= lotRows.size()) {
            throw new IndexOutOfBoundsException("there is no such lot");
        }
        return lotRows.get(lot);
    }

    private Car existingCar(int car) {
        checkCar(car);
        return carRows.get(car);
    }

    private Image existingImage(int image) {
        if (image < 0 || image >= imageRows.size()) {
            throw new IndexOutOfBoundsException("there is no such image");
        }
        return imageRows.get(image);
    }

    // ---- what a car needs, lacks and is fit for

    private int neededKinds(Car car) {
        int set = 0;
        for (int k = 0; k < KINDS; k++) {
            if (kindRows[k].isNeededWith(car.options)) {
                set |= 1 << k;
            }
        }
        return set;
    }

    private boolean isLacking(Car car, int kind) {
        return kindRows[kind].isNeededWith(car.options) && !car.hasGoodUnit(kind);
    }

    private int lackingKinds(Car car) {
        int set = 0;
        for (int k = 0; k < KINDS; k++) {
            if (isLacking(car, k)) {
                set |= 1 << k;
            }
        }
        return set;
    }

    // With nothing lacking it is STATIONS, which is lower than no station.
    private int lowestLackingStation(Car car) {
        int lowest = STATIONS;
        for (int k = 0; k < KINDS; k++) {
            if (isLacking(car, k)) {
                lowest = Math.min(lowest, kindRows[k].station);
            }
        }
        return lowest;
    }

    private boolean isLackingAt(Car car, int station) {
        for (int k = 0; k < KINDS; k++) {
            if (kindRows[k].station == station && isLacking(car, k)) {
                return true;
            }
        }
        return false;
    }

    private boolean isLackingSoftware(Car car) {
        for (int k = 0; k < KINDS; k++) {
            if (kindRows[k].software && isLacking(car, k)) {
                return true;
            }
        }
        return false;
    }

    private boolean fits(Car car) {
        Image image = car.image;
        return image != null
                && image.isSignedFor(car.number)
                && isBuiltFor(image, car)
                && !isLackingSoftware(car);
    }

    private int carsWithUnitOf(Lot lot) {
        int count = 0;
        for (int c = 0; c < carRows.size(); c++) {
            if (carRows.get(c).unitOf[lot.kind] == lot) {
                count++;
            }
        }
        return count;
    }

    // ---- what an image is built for

    // An image keeps 0 where no software is, so that is what a car answers too.
    private int softwareVersion(Car car, int kind) {
        Lot unit = car.unitOf[kind];
        return unit == null || !kindRows[kind].software ? 0 : unit.version;
    }

    private boolean isBuiltFor(Image image, Car car) {
        for (int k = 0; k < KINDS; k++) {
            if (image.versions[k] != softwareVersion(car, k)) {
                return false;
            }
        }
        return true;
    }

    private Image imageFor(Car car, int number) {
        Image image = new Image(number);
        for (int k = 0; k < KINDS; k++) {
            image.versions[k] = softwareVersion(car, k);
        }
        return image;
    }

    // ---- a takt: back into the lane

    private void sendBackToLane() {
        for (int s = LAST_STATION; s >= 0; s--) {
            Car car = line[s];
            if (car != null) {
                sendBack(car);
            }
        }
    }

    private void sendBack(Car car) {
        int lackingStation = lowestLackingStation(car);
        if (lackingStation < car.station) {
            enterLane(car, lackingStation);
        } else if (mustBeFlashedAgain(car)) {
            enterLane(car, FLASH_STATION);
            car.testFailed = false;
        }
    }

    private static boolean mustBeFlashedAgain(Car car) {
        return (car.station == TEST_STATION && car.testFailed)
                || (car.station == LAST_STATION && !car.tested);
    }

    private void enterLane(Car car, int station) {
        clearPlaceOf(car);
        car.where = LANE;
        car.station = station;
        lane.add(car);
    }

    // ---- a takt: onwards

    private boolean leaveLine() {
        Car car = line[LAST_STATION];
        if (car == null || lackingKinds(car) != 0 || !car.tested || !fits(car)) {
            return false;
        }
        clearPlaceOf(car);
        car.where = LEFT;
        car.station = NONE;
        return true;
    }

    private void moveOn() {
        for (int s = TEST_STATION; s >= 0; s--) {
            Car car = line[s];
            if (car != null && line[s + 1] == null && isDone(car)) {
                enterLine(car, s + 1);
            }
        }
    }

    private boolean isDone(Car car) {
        if (car.station == TEST_STATION) {
            return car.tested;
        }
        if (car.station == FLASH_STATION) {
            return car.image != null;
        }
        return !isLackingAt(car, car.station);
    }

    private void enterLine(Car car, int station) {
        clearPlaceOf(car);
        car.where = ON_LINE;
        car.station = station;
        line[station] = car;
    }

    private void clearPlaceOf(Car car) {
        if (car.where == ON_LINE && isStation(car.station)) {
            line[car.station] = null;
        }
    }

    // ---- a takt: onto the line

    private void comeFromLane() {
        int waiting = lane.size();
        int next = 0;
        for (int n = 0; n < waiting && next < lane.size(); n++) {
            Car car = lane.get(next);
            if (isStation(car.station) && line[car.station] == null) {
                lane.remove(next);
                enterLine(car, car.station);
            } else {
                next++;
            }
        }
    }

    private void comeFromOrders() {
        if (line[0] != null) {
            return;
        }
        for (int c = 0; c < carRows.size(); c++) {
            Car car = carRows.get(c);
            if (car.where == ORDERED) {
                enterLine(car, 0);
                return;
            }
        }
    }

    // ---- a takt: work

    private void workOnLine() {
        for (int s = 0; s < STATIONS; s++) {
            Car car = line[s];
            if (car != null && isFittingStation(s)) {
                fitParts(car);
            } else if (car != null && s == TEST_STATION && !car.tested) {
                test(car);
            }
        }
    }

    private void fitParts(Car car) {
        for (int k = 0; k < KINDS; k++) {
            if (kindRows[k].station == car.station && isLacking(car, k)) {
                takeOut(car, k);
                pick(car, k);
            }
        }
    }

    private void takeOut(Car car, int kind) {
        if (car.unitOf[kind] != null) {
            car.unitOf[kind] = null;
            car.tested = false;
            scrapCount++;
            picks.add(new Pick(car.number, kind, NONE));
        }
    }

    private void pick(Car car, int kind) {
        for (int l = 0; l < lotRows.size(); l++) {
            Lot lot = lotRows.get(l);
            if (lot.kind == kind && !lot.recalled && lot.unitsLeft > 0) {
                lot.unitsLeft--;
                car.unitOf[kind] = lot;
                car.tested = false;
                picks.add(new Pick(car.number, kind, lot.number));
                return;
            }
        }
    }

    private void test(Car car) {
        boolean passes = fits(car) && !car.faultTold;
        car.tested = passes;
        car.testFailed = !passes;
        car.faultTold = false;
        if (!passes) {
            failCount++;
        }
    }

    private static final class Kind {
        int station = 0;
        int with = ALL_OPTIONS;
        int without = 0;
        boolean software = false;

        boolean isNeededWith(int options) {
            return (options & with) == with && (options & without) == 0;
        }
    }

    private static final class Lot {
        final int number;
        final int kind;
        final int version;
        int unitsLeft;
        boolean recalled = false;

        Lot(int number, int kind, int version, int units) {
            this.number = number;
            this.kind = kind;
            this.version = version;
            this.unitsLeft = units;
        }
    }

    private static final class Car {
        final int number;
        final int options;
        // At the index k stands the lot of its unit of the kind k, null if it has none.
        final Lot[] unitOf = new Lot[KINDS];
        int where = ORDERED;
        int station = NONE;
        Image image = null;
        boolean tested = false;
        boolean testFailed = false;
        boolean faultTold = false;

        Car(int number, int options) {
            this.number = number;
            this.options = options;
        }

        boolean hasGoodUnit(int kind) {
            Lot unit = unitOf[kind];
            return unit != null && !unit.recalled;
        }

        boolean hasRecalledUnit() {
            for (int k = 0; k < KINDS; k++) {
                Lot unit = unitOf[k];
                if (unit != null && unit.recalled) {
                    return true;
                }
            }
            return false;
        }
    }

    private static final class Image {
        final int number;
        final int[] versions = new int[KINDS];
        // The bit c for the car c: there are at most 30.
        int signedCars = 0;

        Image(int number) {
            this.number = number;
        }

        boolean isSignedFor(int car) {
            return (signedCars & (1 << car)) != 0;
        }
    }

    // The lot is NONE where a unit was taken out. A car takes no second unit of a lot,
    // as it gives one back only when the lot is recalled: there are 30 * 40 picks at most,
    // and as many that were taken out.
    private static final class Pick {
        final int car;
        final int kind;
        final int lot;

        Pick(int car, int kind, int lot) {
            this.car = car;
            this.kind = kind;
            this.lot = lot;
        }
    }
}
