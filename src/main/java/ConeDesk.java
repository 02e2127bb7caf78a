import java.util.Arrays;

/**
 * Cones of all points that fulfil some inequalities with whole numbers: their lines, rays, faces
 * and the whole points that are no sums of two others.
 */
public final class ConeDesk {
    private static final int WIDTH = 4;
    private static final int LEAST_DIMENSION = 2;
    private static final int MOST_ROWS = 8;
    private static final int ROW_REACH = 5;
    private static final int PARTS_REACH = 100;
    private static final int LEAST_REACH = 1000;
    private static final int LARGE_RAYS = 8;
    private static final int LARGE_INDEX = 12;

    // Eight rows in four dimensions bound a cone over a solid with at most eight sides, which
    // has at most 2 * 8 - 4 corners and then 18 edges; 12 + 18 + 8 faces, the whole and nothing.
    private static final int MOST_RAYS = 12;
    private static final int MOST_FACES = 40;

    // A cone with 8 rays is cut into at most 9 simplices: at most 12 triangles are the skin of
    // the solid, and at least 3 of them meet in the corner from which it is cut.
    private static final int MOST_SIMPLICES = 9;
    private static final int MOST_CUTS = 1 + WIDTH * MOST_SIMPLICES;
    private static final int MOST_CANDIDATES = LARGE_RAYS + MOST_SIMPLICES * (LARGE_INDEX - 1);

    // All choices of coordinates as masks, those of fewer coordinates first, and where the choices
    // of 0, 1, .. coordinates start.
    private static final int[] CHOICES = {0, 1, 2, 4, 8, 3, 5, 6, 9, 10, 12, 7, 11, 13, 14, 15};
    private static final int[] CHOICE_STARTS = {0, 1, 5, 11, 15, 16};

    // How much is known of the cone between its rows, each step resting on the one before.
    private static final int KNOWN_NOTHING = 0;
    private static final int KNOWN_RAYS = 1;
    private static final int KNOWN_FACES = 2;
    private static final int KNOWN_BASIS = 3;

    private final int dimension;
    private final int[] given;
    private final int[] direction;
    private final PointList rowList;
    private final PointList rayList;
    private final Minors minors;
    private final FaceList faceList;
    private final BasisFinder finder;
    private int rank;
    private int span;
    private int known;

    public ConeDesk(int dimension) {
        this.dimension = Math.max(LEAST_DIMENSION, Math.min(WIDTH, dimension));
        given = new int[WIDTH];
        direction = new int[WIDTH];
        rowList = new PointList(MOST_ROWS);
        rayList = new PointList(MOST_RAYS);
        minors = new Minors();
        faceList = new FaceList();
        finder = new BasisFinder();
    }

    public int add(int a, int b, int c, int d) throws IllegalArgumentException, IllegalStateException {
        take(a, b, c, d);
        if (!isGivenWithin(ROW_REACH) || isGivenWithin(0)) {
            throw new IllegalArgumentException("a row has coordinates -5 .. 5, not all of them 0");
        }
        if (rowList.count >= MOST_ROWS) {
            throw new IllegalStateException("eight rows are there");
        }
        rowList.putAt(rowList.count, given);
        noteChange();
        return rowList.count - 1;
    }

    public void drop(int row) throws IndexOutOfBoundsException {
        needRow(row);
        rowList.removeAt(row);
        noteChange();
    }

    public int look(int what) {
        switch (what) {
            case 0:
                return dimension;
            case 1:
                return rowList.count;
            case 2:
                return rank;
            case 3:
                return dimension - rank;
            default:
                return -1;
        }
    }

    public int row(int row, int i) throws IndexOutOfBoundsException {
        needRow(row);
        needCoordinate(i);
        return rowList.at(row, i);
    }

    public int rays() throws IllegalStateException {
        know(KNOWN_RAYS);
        return rayList.count;
    }

    public int ray(int ray, int i) throws IllegalStateException, IndexOutOfBoundsException {
        know(KNOWN_RAYS);
        if (!rayList.has(ray)) {
            throw new IndexOutOfBoundsException("no such ray");
        }
        needCoordinate(i);
        return rayList.at(ray, i);
    }

    public int size() throws IllegalStateException {
        know(KNOWN_RAYS);
        return span;
    }

    public boolean bounds(int row) throws IllegalStateException, IndexOutOfBoundsException {
        know(KNOWN_FACES);
        needRow(row);
        return faceList.isFirstAtItsFace(row) && faceList.dimensionAt(row) == span - 1;
    }

    public int faces(int dimension) throws IllegalStateException {
        know(KNOWN_FACES);
        return faceList.countOf(dimension);
    }

    public int basis() throws IllegalStateException {
        know(KNOWN_BASIS);
        return finder.large ? -1 : finder.found.count;
    }

    public int point(int point, int i) throws IllegalStateException, IndexOutOfBoundsException {
        know(KNOWN_BASIS);
        needSmall();
        if (!finder.found.has(point)) {
            throw new IndexOutOfBoundsException("no such point");
        }
        needCoordinate(i);
        return finder.found.at(point, i);
    }

    public boolean holds(int a, int b, int c, int d) {
        take(a, b, c, d);
        return isInCone(given);
    }

    public int parts(int a, int b, int c, int d) throws IllegalStateException {
        know(KNOWN_BASIS);
        needSmall();
        take(a, b, c, d);
        if (!isGivenWithin(PARTS_REACH) || !isInCone(given)) {
            return -1;
        }
        return finder.countParts(rowList, given);
    }

    public int least(int a, int b, int c, int d) throws IllegalArgumentException, IllegalStateException {
        take(a, b, c, d);
        if (!isGivenWithin(LEAST_REACH)) {
            throw new IllegalArgumentException("a coordinate is not -1000 .. 1000");
        }
        know(KNOWN_BASIS);
        needSmall();
        return finder.leastProduct(given);
    }

    // Numbers beyond the dimension are kept as 0, so that no sum has to leave them out.
    private void take(int a, int b, int c, int d) {
        given[0] = a;
        given[1] = b;
        given[2] = dimension > 2 ? c : 0;
        given[3] = dimension > 3 ? d : 0;
    }

    private boolean isGivenWithin(int reach) {
        for (int i = 0; i < WIDTH; i++) {
            if (given[i] < -reach || given[i] > reach) {
                return false;
            }
        }
        return true;
    }

    private boolean isInCone(int[] coordinates) {
        for (int r = 0; r < rowList.count; r++) {
            if (rowList.product(r, coordinates) < 0) {
                return false;
            }
        }
        return true;
    }

    private void noteChange() {
        rank = minors.load(rowList, maskOfAll(rowList.count));
        known = KNOWN_NOTHING;
    }

    private void needRow(int row) {
        if (!rowList.has(row)) {
            throw new IndexOutOfBoundsException("no such row");
        }
    }

    private void needCoordinate(int i) {
        if (i < 0 || i >= dimension) {
            throw new IndexOutOfBoundsException("no such coordinate");
        }
    }

    private void needSmall() {
        if (finder.large) {
            throw new IllegalStateException("the cone is large");
        }
    }

    private void know(int wanted) {
        if (rank < dimension) {
            throw new IllegalStateException("the cone is not pointed");
        }
        if (known < KNOWN_RAYS) {
            findRays();
            span = minors.load(rayList, maskOfAll(rayList.count));
            known = KNOWN_RAYS;
        }
        if (known < KNOWN_FACES && wanted >= KNOWN_FACES) {
            faceList.find(rowList, rayList, minors);
            known = KNOWN_FACES;
        }
        if (known < KNOWN_BASIS && wanted >= KNOWN_BASIS) {
            finder.find(rowList, rayList, faceList, span);
            known = KNOWN_BASIS;
        }
    }

    // A ray is, but for its sign, the one direction that some dimension - 1 independent rows
    // leave; in a pointed cone never both signs of a direction are in the cone.
    private void findRays() {
        rayList.count = 0;
        int end = 1 << rowList.count;
        for (int chosen = 0; chosen < end; chosen++) {
            if (Integer.bitCount(chosen) == dimension - 1
                    && minors.load(rowList, chosen) == dimension - 1) {
                tryRay(1);
                tryRay(-1);
            }
        }
    }

    private void tryRay(int sign) {
        minors.fillDirection(direction, dimension, sign);
        if (isInCone(direction)) {
            rayList.insertInOrder(direction);
        }
    }

    private static int maskOfAll(int count) {
        return (1 << count) - 1;
    }

    private static boolean hasBit(int mask, int bit) {
        return (mask >> bit & 1) != 0;
    }

    /** Points one behind another in a single array, so that no call has to make objects. */
    private static final class PointList {
        final int[] cells;
        int count;
        private final int most;

        PointList(int most) {
            this.most = most;
            cells = new int[most * WIDTH];
        }

        boolean has(int which) {
            return which >= 0 && which < count;
        }

        int at(int which, int i) {
            return cells[which * WIDTH + i];
        }

        void putAt(int place, int[] coordinates) {
            if (count >= most) {
                return;
            }
            int from = place * WIDTH;
            System.arraycopy(cells, from, cells, from + WIDTH, count * WIDTH - from);
            System.arraycopy(coordinates, 0, cells, from, WIDTH);
            count++;
        }

        void removeAt(int which) {
            int from = (which + 1) * WIDTH;
            System.arraycopy(cells, from, cells, which * WIDTH, count * WIDTH - from);
            count--;
        }

        void copyWithin(int from, int to) {
            System.arraycopy(cells, from * WIDTH, cells, to * WIDTH, WIDTH);
        }

        void copyOut(int which, int[] target) {
            System.arraycopy(cells, which * WIDTH, target, 0, WIDTH);
        }

        /** Puts a point where it belongs in the order of points, unless it is there already. */
        void insertInOrder(int[] coordinates) {
            int place = count;
            while (place > 0 && order(place - 1, coordinates) > 0) {
                place--;
            }
            if (place == 0 || order(place - 1, coordinates) < 0) {
                putAt(place, coordinates);
            }
        }

        /** A long, since a caller may ask about any int. */
        long product(int which, int[] coordinates) {
            long sum = 0;
            for (int i = 0; i < WIDTH; i++) {
                sum += (long) at(which, i) * coordinates[i];
            }
            return sum;
        }

        private int order(int which, int[] coordinates) {
            for (int i = 0; i < WIDTH; i++) {
                int mine = at(which, i);
                if (mine != coordinates[i]) {
                    return mine < coordinates[i] ? -1 : 1;
                }
            }
            return 0;
        }
    }

    /**
     * The determinants of independent points over every choice (a mask) of as many coordinates.
     * They fit a long with ease: coordinates of rays are determinants of at most three rows and
     * so at most 500, and at most four rays are joined. Choices beyond the dimension need no care,
     * since coordinates there are 0.
     */
    private static final class Minors {
        private long[] current = new long[CHOICES.length];
        private long[] next = new long[CHOICES.length];
        private int joined;

        /** Takes the chosen points in, but for those that depend on earlier ones: their rank. */
        int load(PointList list, int chosen) {
            joined = 0;
            current[0] = 1;
            for (int p = 0; p < list.count && joined < WIDTH; p++) {
                if (hasBit(chosen, p)) {
                    join(list, p);
                }
            }
            return joined;
        }

        int firstChoice() {
            return CHOICE_STARTS[joined];
        }

        int endOfChoices() {
            return CHOICE_STARTS[joined + 1];
        }

        long minor(int mask) {
            return current[mask];
        }

        long commonDivisor() {
            long divisor = 0;
            int end = endOfChoices();
            for (int choice = firstChoice(); choice < end; choice++) {
                divisor = commonDivisorOf(divisor, Math.abs(current[CHOICES[choice]]));
            }
            return divisor;
        }

        /** The shortest whole point whose product with all of dimension - 1 joined points is 0. */
        void fillDirection(int[] target, int dimension, int sign) {
            long divisor = commonDivisor();
            if (divisor == 0) {
                return;
            }
            Arrays.fill(target, 0);
            for (int i = 0; i < dimension; i++) {
                long share = current[maskOfAll(dimension) ^ 1 << i] / divisor;
                target[i] = (int) (i % 2 == 0 ? share : -share) * sign;
            }
        }

        // The new point is the last line of each determinant, which is expanded along it.
        private void join(PointList list, int which) {
            boolean independent = false;
            int end = CHOICE_STARTS[joined + 2];
            for (int choice = CHOICE_STARTS[joined + 1]; choice < end; choice++) {
                int mask = CHOICES[choice];
                long sum = 0;
                int sign = 1;
                for (int i = WIDTH - 1; i >= 0; i--) {
                    if ((mask >> i & 1) != 0) {
                        sum += sign * current[mask ^ 1 << i] * list.cells[which * WIDTH + i];
                        sign = -sign;
                    }
                }
                next[mask] = sum;
                independent = independent || sum != 0;
            }
            if (independent) {
                long[] old = current;
                current = next;
                next = old;
                joined++;
            }
        }

        private static long commonDivisorOf(long a, long b) {
            long large = a;
            long small = b;
            // Euclid takes fewer than a hundred steps on any two longs.
            for (int step = 0; step < 100 && small != 0; step++) {
                long rest = large % small;
                large = small;
                small = rest;
            }
            return large;
        }
    }

    /** The faces as masks of rays; face 0 is the one of all rays. */
    private static final class FaceList {
        final int[] masks = new int[MOST_FACES];
        int count;
        private final int[] dimensions = new int[MOST_FACES];
        private final int[] tight = new int[MOST_ROWS];
        private final int[] corner = new int[WIDTH];

        void find(PointList rows, PointList rays, Minors minors) {
            count = 0;
            include(maskOfAll(rays.count));
            findTight(rows, rays);
            for (int r = 0; r < rows.count; r++) {
                int before = count;
                for (int f = 0; f < before; f++) {
                    include(masks[f] & tight[r]);
                }
            }
            for (int f = 0; f < count; f++) {
                dimensions[f] = minors.load(rays, masks[f]);
            }
        }

        int countOf(int dimension) {
            int sum = 0;
            for (int f = 0; f < count; f++) {
                if (dimensions[f] == dimension) {
                    sum++;
                }
            }
            return sum;
        }

        boolean isFirstAtItsFace(int row) {
            for (int r = 0; r < row; r++) {
                if (tight[r] == tight[row]) {
                    return false;
                }
            }
            return true;
        }

        int dimensionAt(int row) {
            int face = indexOf(tight[row]);
            return face < count ? dimensions[face] : -1;
        }

        /** Whether a face bounds another one and leaves one ray out. */
        boolean isSideWithout(int side, int face, int rayBit) {
            return dimensions[side] == dimensions[face] - 1
                    && (masks[side] & ~masks[face]) == 0
                    && (masks[side] & rayBit) == 0;
        }

        private void findTight(PointList rows, PointList rays) {
            Arrays.fill(tight, 0);
            for (int p = 0; p < rays.count; p++) {
                rays.copyOut(p, corner);
                for (int r = 0; r < rows.count; r++) {
                    if (rows.product(r, corner) == 0) {
                        tight[r] |= 1 << p;
                    }
                }
            }
        }

        private void include(int mask) {
            if (count < MOST_FACES && indexOf(mask) == count) {
                masks[count] = mask;
                count++;
            }
        }

        private int indexOf(int mask) {
            int face = 0;
            while (face < count && masks[face] != mask) {
                face++;
            }
            return face;
        }
    }

    /**
     * The cutting of a cone into simplices, each the mask of SIZE independent rays. A face with a
     * ray of it is filled by the cones over its sides without that ray, with that ray added.
     */
    private static final class Simplices {
        final int[] masks = new int[MOST_SIMPLICES];
        int count;
        // A cut is a face that is still to be filled, and behind it the rays that are to be added.
        private final int[] cuts = new int[MOST_CUTS];
        private int cutCount;

        void find(FaceList faces) {
            count = 0;
            cutCount = 0;
            pushCut(0, 0);
            for (int next = 0; next < cutCount && next < MOST_CUTS; next++) {
                int face = cuts[next] >> LARGE_RAYS;
                int chosen = cuts[next] & maskOfAll(LARGE_RAYS);
                if (faces.masks[face] == 0) {
                    addSimplex(chosen);
                } else {
                    pushSides(faces, face, chosen);
                }
            }
        }

        private void pushSides(FaceList faces, int face, int chosen) {
            int first = faces.masks[face] & -faces.masks[face];
            for (int side = 0; side < faces.count; side++) {
                if (faces.isSideWithout(side, face, first)) {
                    pushCut(side, chosen | first);
                }
            }
        }

        private void pushCut(int face, int chosen) {
            if (cutCount < MOST_CUTS) {
                cuts[cutCount] = face << LARGE_RAYS | chosen;
                cutCount++;
            }
        }

        private void addSimplex(int chosen) {
            if (count < MOST_SIMPLICES) {
                masks[count] = chosen;
                count++;
            }
        }
    }

    /**
     * The whole points that are sums of less than one of each ray of a simplex. The shares of the
     * rays in such a point, counted in parts of the INDEX, are a group of INDEX elements; four
     * bits of a mix of shares stand for each ray.
     */
    private static final class InnerPoints {
        private static final int SHARE_BITS = 4;
        private static final int SHARE_MASK = 15;

        private final Minors minors = new Minors();
        private final int[] members = new int[WIDTH];
        private final int[] steps = new int[CHOICES.length];
        private final int[] mixes = new int[LARGE_INDEX];
        private final int[] inner = new int[WIDTH];
        private int memberCount;
        private int mixCount;
        private int index;

        void addTo(PointList target, PointList rays, int simplex) {
            minors.load(rays, simplex);
            index = (int) minors.commonDivisor();
            if (index <= 1 || index > LARGE_INDEX) {
                return;
            }
            findMembers(rays, simplex);
            findSteps(rays, simplex);
            findMixes();
            for (int m = 1; m < mixCount; m++) {
                fillInner(rays, mixes[m]);
                target.insertInOrder(inner);
            }
        }

        private void findMembers(PointList rays, int simplex) {
            memberCount = 0;
            for (int p = 0; p < rays.count; p++) {
                if (hasBit(simplex, p) && memberCount < WIDTH) {
                    members[memberCount] = p;
                    memberCount++;
                }
            }
        }

        // Over one coordinate less than there are rays, the determinants of all rays but one,
        // with signs by turns, are shares of a whole point: what they sum up to is, coordinate by
        // coordinate, a determinant of all rays, and INDEX divides it. The mixes over all choices
        // of coordinates generate the group: a change of whole coordinates that turns the rays'
        // span into coordinates of its own keeps what they generate, and there it is plain.
        private void findSteps(PointList rays, int simplex) {
            Arrays.fill(steps, 0);
            for (int m = 0; m < memberCount; m++) {
                minors.load(rays, simplex & ~(1 << members[m]));
                int end = minors.endOfChoices();
                for (int choice = minors.firstChoice(); choice < end; choice++) {
                    long minor = minors.minor(CHOICES[choice]);
                    steps[choice] |= restOf(m % 2 == 0 ? minor : -minor) << m * SHARE_BITS;
                }
            }
        }

        private int restOf(long share) {
            int rest = index == 0 ? 0 : (int) (share % index);
            return rest < 0 ? rest + index : rest;
        }

        private void findMixes() {
            mixes[0] = 0;
            mixCount = 1;
            for (int m = 0; m < mixCount && m < LARGE_INDEX; m++) {
                for (int step = 0; step < steps.length; step++) {
                    if (steps[step] != 0) {
                        includeMix(sumOf(mixes[m], steps[step]));
                    }
                }
            }
        }

        private int sumOf(int mix, int step) {
            int sum = 0;
            for (int at = 0; at < memberCount * SHARE_BITS; at += SHARE_BITS) {
                int share = (mix >> at & SHARE_MASK) + (step >> at & SHARE_MASK);
                sum |= (share >= index ? share - index : share) << at;
            }
            return sum;
        }

        private void includeMix(int mix) {
            for (int m = 0; m < mixCount; m++) {
                if (mixes[m] == mix) {
                    return;
                }
            }
            if (mixCount < LARGE_INDEX) {
                mixes[mixCount] = mix;
                mixCount++;
            }
        }

        private void fillInner(PointList rays, int mix) {
            if (index == 0) {
                return;
            }
            for (int i = 0; i < WIDTH; i++) {
                int sum = 0;
                for (int m = 0; m < memberCount; m++) {
                    sum += (mix >> m * SHARE_BITS & SHARE_MASK) * rays.at(members[m], i);
                }
                inner[i] = sum / index;
            }
        }
    }

    /**
     * The basis of a cone that is not LARGE. A whole point of a simplex is a sum of its rays and
     * one of its inner points, so the basis is among the rays and inner points of the simplices.
     */
    private static final class BasisFinder {
        final PointList found = new PointList(MOST_CANDIDATES);
        boolean large;
        private final Minors minors = new Minors();
        private final Simplices simplices = new Simplices();
        private final InnerPoints innerPoints = new InnerPoints();
        private final int[] candidate = new int[WIDTH];
        // The products of each found point with each row: a point may be taken away from another
        // one if none of its heights is above the other's.
        private final int[] heights = new int[MOST_CANDIDATES * MOST_ROWS];
        private final int[] rest = new int[MOST_ROWS];
        private int rowCount;

        void find(PointList rows, PointList rays, FaceList faces, int span) {
            rowCount = rows.count;
            found.count = 0;
            large = isLarge(rays, span);
            if (large) {
                return;
            }
            simplices.find(faces);
            for (int p = 0; p < rays.count; p++) {
                rays.copyOut(p, candidate);
                found.insertInOrder(candidate);
            }
            for (int s = 0; s < simplices.count; s++) {
                innerPoints.addTo(found, rays, simplices.masks[s]);
            }
            measure(rows);
            siftOutSums();
        }

        int leastProduct(int[] with) {
            long least = 0;
            for (int p = 0; p < found.count; p++) {
                long product = found.product(p, with);
                least = p == 0 ? product : Math.min(least, product);
            }
            return (int) least;
        }

        // What can't be taken away can't be taken away later either, when less is left: so one
        // pass down from the greatest point does what looking anew each time would do.
        int countParts(PointList rows, int[] whole) {
            for (int r = 0; r < rowCount; r++) {
                rest[r] = (int) rows.product(r, whole);
            }
            int sum = 0;
            for (int p = found.count - 1; p >= 0; p--) {
                int times = timesInRest(p);
                for (int r = 0; r < rowCount; r++) {
                    rest[r] -= times * heights[p * MOST_ROWS + r];
                }
                sum += times;
            }
            return sum;
        }

        private int timesInRest(int p) {
            int times = -1;
            for (int r = 0; r < rowCount; r++) {
                int height = heights[p * MOST_ROWS + r];
                if (height > 0) {
                    int here = rest[r] / height;
                    times = times < 0 ? here : Math.min(times, here);
                }
            }
            return Math.max(times, 0);
        }

        private boolean isLarge(PointList rays, int span) {
            if (rays.count > LARGE_RAYS) {
                return true;
            }
            int end = 1 << rays.count;
            for (int chosen = 0; chosen < end; chosen++) {
                if (Integer.bitCount(chosen) == span
                        && minors.load(rays, chosen) == span
                        && minors.commonDivisor() > LARGE_INDEX) {
                    return true;
                }
            }
            return false;
        }

        private void measure(PointList rows) {
            for (int p = 0; p < found.count; p++) {
                found.copyOut(p, candidate);
                for (int r = 0; r < rowCount; r++) {
                    heights[p * MOST_ROWS + r] = (int) rows.product(r, candidate);
                }
            }
        }

        // Points of the basis are never sifted out, and one of them is part of every sum: it does
        // no harm that sums are looked for only among what is left.
        private void siftOutSums() {
            int kept = 0;
            for (int p = 0; p < found.count; p++) {
                if (!isSum(p, kept)) {
                    found.copyWithin(p, kept);
                    System.arraycopy(heights, p * MOST_ROWS, heights, kept * MOST_ROWS, MOST_ROWS);
                    kept++;
                }
            }
            found.count = kept;
        }

        private boolean isSum(int p, int kept) {
            for (int q = 0; q < found.count; q++) {
                if ((q < kept || q > p) && isBelow(q, p)) {
                    return true;
                }
            }
            return false;
        }

        private boolean isBelow(int q, int p) {
            for (int r = 0; r < rowCount; r++) {
                if (heights[q * MOST_ROWS + r] > heights[p * MOST_ROWS + r]) {
                    return false;
                }
            }
            return true;
        }
    }
}
