/** A small store of nodes and edges, and patterns that are looked for in it. Sets are ints with bit m for member m. */
public final class GraphPatterns {
    public static final int BAD = -1;
    public static final int FULL = -2;

    private static final int NODES = 12;
    private static final int EDGES = 20;
    private static final int LABELS = 4;
    private static final int GREATEST_VALUE = 99;
    private static final int TYPES = 3;
    private static final int GREATEST_WHAT = 62;
    private static final int ALL_LABELS = 15;
    private static final int ALL_TYPES = 7;
    private static final int LONGEST_WAY = 3;

    private static final int SPOTS = 4;
    private static final int LINKS = 4;
    private static final int PATTERNS = 2;
    private static final int SPOT_PLACES = 8;
    private static final int LINK_PLACES = 8;
    private static final int HAND = 0;
    private static final int KEPT = 1;
    private static final int MODES = 4;
    private static final int DISTINCT_NODES = 1;
    private static final int DISTINCT_EDGES = 2;
    private static final int EDGE_KIND = 0;
    private static final int WAY_KIND = 1;

    // A spot i that the pattern lacks is given the stand-in node NODES + i, and a link j that has no edge
    // the stand-in edge EDGES + j of weight 0: so every search goes over four spots and four links alike.
    private static final int NODE_CHOICES = 16;
    private static final int EDGE_CHOICES = 24;
    private static final int WAY_CHOICES = 64;
    private static final int PARTS = 8;
    private static final int LAST_LISTED = 999;
    private static final int NO_MATCH = -1;
    private static final int ABOVE_ALL_WEIGHTS = 1000;

    private int nodeSet = 0;
    private final int[] nodeLabel = new int[NODES];
    private final int[] nodeValue = new int[NODES];

    private int edgeSet = 0;
    private final int[] edgesFrom = new int[NODE_CHOICES];
    private final int[] edgesTo = new int[NODE_CHOICES];
    private final int[] edgesOfType = new int[TYPES];
    private final int[] edgeWeight = new int[EDGE_CHOICES];

    // Spot i of pattern p stands at p * SPOTS + i, link j at p * LINKS + j.
    private final int[] patternMode = new int[PATTERNS];
    private final int[] spotSet = new int[PATTERNS];
    private final int[] linkSet = new int[PATTERNS];
    private final int[] spotLabels = new int[SPOT_PLACES];
    private final int[] spotLeast = new int[SPOT_PLACES];
    private final int[] spotGreatest = new int[SPOT_PLACES];
    private final int[] linkStart = new int[LINK_PLACES];
    private final int[] linkEnd = new int[LINK_PLACES];
    private final int[] linkTypes = new int[LINK_PLACES];
    private final int[] linkKind = new int[LINK_PLACES];

    // The search at work: which pattern it looks for, and what may be chosen.
    private int sought = HAND;
    private final int[] spotNodes = new int[SPOTS];
    private final int[] typedEdges = new int[LINKS];
    private final int[] wayTargets = new int[WAY_CHOICES];
    // The choice it stands at: a node for each spot, the edges each link may have between them, and its edge.
    private final int[] placed = new int[SPOTS];
    private final int[] linkEdges = new int[LINKS];
    private final int[] taken = new int[LINKS];
    // What it is to find, and what it has found.
    private int wanted = NO_MATCH;
    private boolean weighing = false;
    private int found = 0;
    private int lightest = ABOVE_ALL_WEIGHTS;
    private int heaviest = BAD;
    private final int[] picked = new int[PARTS];

    public GraphPatterns() {
    }

    public int addNode(int label, int value) {
        if (!isLabelAndValue(label, value)) {
            return BAD;
        }
        int n = leastMissing(nodeSet, NODES);
        if (n == NODES) {
            return FULL;
        }
        nodeSet |= 1 << n;
        nodeLabel[n] = label;
        nodeValue[n] = value;
        return n;
    }

    public boolean setNode(int n, int label, int value) {
        if (!isNode(n) || !isLabelAndValue(label, value)) {
            return false;
        }
        nodeLabel[n] = label;
        nodeValue[n] = value;
        return true;
    }

    public int removeNode(int n) {
        if (!isNode(n)) {
            return BAD;
        }
        int gone = edgesFrom[n] | edgesTo[n];
        dropEdges(gone);
        nodeSet &= ~(1 << n);
        return size(gone);
    }

    public int addEdge(int from, int to, int what) {
        if (!isNode(from) || !isNode(to) || what < 0 || what > GREATEST_WHAT) {
            return BAD;
        }
        int e = leastMissing(edgeSet, EDGES);
        if (e == EDGES) {
            return FULL;
        }
        edgeSet |= 1 << e;
        edgesFrom[from] |= 1 << e;
        edgesTo[to] |= 1 << e;
        edgesOfType[what % TYPES] |= 1 << e;
        edgeWeight[e] = what / TYPES;
        return e;
    }

    public boolean removeEdge(int e) {
        if (e < 0 || e >= EDGES || !has(edgeSet, e)) {
            return false;
        }
        dropEdges(1 << e);
        return true;
    }

    public int degree(int n, int what) {
        if (!isNode(n) || what < 0 || what > 1) {
            return BAD;
        }
        return size(what == 0 ? edgesFrom[n] : edgesTo[n]);
    }

    public int reach(int n, int types, int k) {
        if (!isNode(n) || types < 0 || types > ALL_TYPES || k < 1 || k > LONGEST_WAY) {
            return BAD;
        }
        int edges = edgesWithTypes(types);
        return targets(n, edges, k);
    }

    public int nodes() {
        return nodeSet;
    }

    public boolean begin(int mode) {
        if (mode < 0 || mode >= MODES) {
            return false;
        }
        patternMode[HAND] = mode;
        spotSet[HAND] = 0;
        linkSet[HAND] = 0;
        return true;
    }

    public boolean spot(int i, int labels, int least, int greatest) {
        if (i < 0 || i >= SPOTS || labels < 0 || labels > ALL_LABELS) {
            return false;
        }
        int at = HAND * SPOTS + i;
        spotSet[HAND] |= 1 << i;
        spotLabels[at] = labels;
        spotLeast[at] = least;
        spotGreatest[at] = greatest;
        return true;
    }

    public boolean link(int j, int ab, int types, int kind) {
        if (j < 0 || j >= LINKS || ab < 0 || ab >= SPOTS * SPOTS) {
            return false;
        }
        int start = ab % SPOTS;
        int end = ab / SPOTS;
        if (!has(spotSet[HAND], start) || !has(spotSet[HAND], end)) {
            return false;
        }
        if (types < 0 || types > ALL_TYPES || (kind != EDGE_KIND && kind != WAY_KIND)) {
            return false;
        }
        int at = HAND * LINKS + j;
        linkSet[HAND] |= 1 << j;
        linkStart[at] = start;
        linkEnd[at] = end;
        linkTypes[at] = types;
        linkKind[at] = kind;
        return true;
    }

    public int count() {
        startSearch(HAND);
        walkNodes();
        return found;
    }

    public int part(int k, int part) {
        if (k < 0 || k > LAST_LISTED || !isPart(part)) {
            return BAD;
        }
        startSearch(HAND);
        wanted = k;
        walkNodes();
        return found > k ? picked[part] : BAD;
    }

    public int weigh(int what) {
        if (what < 0 || what > 1) {
            return BAD;
        }
        startSearch(HAND);
        weighing = true;
        walkNodes();
        if (heaviest == BAD) {
            return BAD;
        }
        return what == 0 ? lightest : heaviest;
    }

    public int keep() {
        copyHandToKept();
        startSearch(KEPT);
        walkNodes();
        return found;
    }

    public int kept() {
        startSearch(KEPT);
        walkNodes();
        return found;
    }

    private static boolean has(int set, int member) {
        return (set >> member & 1) != 0;
    }

    private static int size(int set) {
        int size = 0;
        for (int member = 0; member < EDGE_CHOICES; member++) {
            size += set >> member & 1;
        }
        return size;
    }

    /** The least number below the limit that is not in the set; the limit when all are. */
    private static int leastMissing(int set, int limit) {
        for (int member = 0; member < limit; member++) {
            if (!has(set, member)) {
                return member;
            }
        }
        return limit;
    }

    private static boolean isLabelAndValue(int label, int value) {
        return label >= 0 && label < LABELS && value >= -GREATEST_VALUE && value <= GREATEST_VALUE;
    }

    private boolean isNode(int n) {
        return n >= 0 && n < NODES && has(nodeSet, n);
    }

    private boolean isPart(int part) {
        if (part < 0 || part >= PARTS) {
            return false;
        }
        if (part < SPOTS) {
            return has(spotSet[HAND], part);
        }
        return hasEdge(HAND, part - SPOTS);
    }

    /** Whether the pattern has a link j and a match gives it an edge. */
    private boolean hasEdge(int pattern, int j) {
        return has(linkSet[pattern], j) && linkKind[pattern * LINKS + j] == EDGE_KIND;
    }

    private void dropEdges(int gone) {
        edgeSet &= ~gone;
        for (int n = 0; n < NODES; n++) {
            edgesFrom[n] &= ~gone;
            edgesTo[n] &= ~gone;
        }
        for (int t = 0; t < TYPES; t++) {
            edgesOfType[t] &= ~gone;
        }
    }

    private int edgesWithTypes(int types) {
        int edges = 0;
        for (int t = 0; t < TYPES; t++) {
            if (has(types, t)) {
                edges |= edgesOfType[t];
            }
        }
        return edges;
    }

    /** The nodes to which ways of one to k of these edges go from node n. */
    private int targets(int n, int edges, int k) {
        int reached = 0;
        int ends = 1 << n;
        for (int length = 1; length <= k; length++) {
            ends = stepFrom(ends, edges);
            reached |= ends;
        }
        return reached;
    }

    private int stepFrom(int starts, int edges) {
        int leaving = 0;
        for (int n = 0; n < NODES; n++) {
            if (has(starts, n)) {
                leaving |= edgesFrom[n] & edges;
            }
        }
        int ends = 0;
        for (int n = 0; n < NODES; n++) {
            if ((edgesTo[n] & leaving) != 0) {
                ends |= 1 << n;
            }
        }
        return ends;
    }

    private void copyHandToKept() {
        patternMode[KEPT] = patternMode[HAND];
        spotSet[KEPT] = spotSet[HAND];
        linkSet[KEPT] = linkSet[HAND];
        for (int i = 0; i < SPOTS; i++) {
            spotLabels[KEPT * SPOTS + i] = spotLabels[HAND * SPOTS + i];
            spotLeast[KEPT * SPOTS + i] = spotLeast[HAND * SPOTS + i];
            spotGreatest[KEPT * SPOTS + i] = spotGreatest[HAND * SPOTS + i];
        }
        for (int j = 0; j < LINKS; j++) {
            linkStart[KEPT * LINKS + j] = linkStart[HAND * LINKS + j];
            linkEnd[KEPT * LINKS + j] = linkEnd[HAND * LINKS + j];
            linkTypes[KEPT * LINKS + j] = linkTypes[HAND * LINKS + j];
            linkKind[KEPT * LINKS + j] = linkKind[HAND * LINKS + j];
        }
    }

    private void startSearch(int pattern) {
        sought = pattern;
        wanted = NO_MATCH;
        weighing = false;
        found = 0;
        lightest = ABOVE_ALL_WEIGHTS;
        heaviest = BAD;
        for (int i = 0; i < SPOTS; i++) {
            spotNodes[i] = has(spotSet[pattern], i) ? fittingNodes(pattern * SPOTS + i) : 1 << (NODES + i);
        }
        for (int j = 0; j < LINKS; j++) {
            linkEdges[j] = 1 << (EDGES + j);
            if (has(linkSet[pattern], j)) {
                prepareLink(j);
            }
        }
    }

    private int fittingNodes(int spot) {
        int fitting = 0;
        for (int n = 0; n < NODES; n++) {
            if (has(nodeSet, n) && has(spotLabels[spot], nodeLabel[n])
                    && spotLeast[spot] <= nodeValue[n] && nodeValue[n] <= spotGreatest[spot]) {
                fitting |= 1 << n;
            }
        }
        return fitting;
    }

    /** Works out once what the link asks of every pair of nodes that is tried. */
    private void prepareLink(int j) {
        int at = sought * LINKS + j;
        int edges = edgesWithTypes(linkTypes[at]);
        typedEdges[j] = edges;
        if (linkKind[at] == WAY_KIND) {
            for (int n = 0; n < NODES; n++) {
                wayTargets[j * NODE_CHOICES + n] = targets(n, edges, LONGEST_WAY);
            }
        }
    }

    /** Goes over the nodes that the spots may have, in the order of the list of matches. */
    private void walkNodes() {
        for (int a = 0; a < NODE_CHOICES; a++) {
            if (!place(0, a)) {
                continue;
            }
            for (int b = 0; b < NODE_CHOICES; b++) {
                if (!place(1, b)) {
                    continue;
                }
                for (int c = 0; c < NODE_CHOICES; c++) {
                    if (!place(2, c)) {
                        continue;
                    }
                    for (int d = 0; d < NODE_CHOICES; d++) {
                        if (place(3, d)) {
                            walkEdges();
                        }
                    }
                    if (wanted != NO_MATCH && found > wanted) {
                        return;
                    }
                }
            }
        }
    }

    /** Puts node n on spot i, and answers whether it fits there beside the nodes of the spots before it. */
    private boolean place(int i, int n) {
        if (!has(spotNodes[i], n)) {
            return false;
        }
        placed[i] = n;
        if ((patternMode[sought] & DISTINCT_NODES) != 0) {
            for (int h = 0; h < i; h++) {
                if (placed[h] == n) {
                    return false;
                }
            }
        }
        for (int j = 0; j < LINKS; j++) {
            if (has(linkSet[sought], j) && lastSpot(j) == i && !joins(j)) {
                return false;
            }
        }
        return true;
    }

    /** The spot of link j that is given its node last. */
    private int lastSpot(int j) {
        int start = linkStart[sought * LINKS + j];
        int end = linkEnd[sought * LINKS + j];
        return start > end ? start : end;
    }

    /** Whether link j can hold between the nodes of its spots; notes the edges it may have there. */
    private boolean joins(int j) {
        int start = placed[linkStart[sought * LINKS + j]];
        int end = placed[linkEnd[sought * LINKS + j]];
        if (linkKind[sought * LINKS + j] == WAY_KIND) {
            return has(wayTargets[j * NODE_CHOICES + start], end);
        }
        linkEdges[j] = edgesFrom[start] & edgesTo[end] & typedEdges[j];
        return linkEdges[j] != 0;
    }

    /** Goes over the edges of the first three links; those of the last one are then met all at once. */
    private void walkEdges() {
        int first = freeEdges(0);
        for (int a = 0; a < EDGE_CHOICES; a++) {
            if (!has(first, a)) {
                continue;
            }
            taken[0] = a;
            int second = freeEdges(1);
            for (int b = 0; b < EDGE_CHOICES; b++) {
                if (!has(second, b)) {
                    continue;
                }
                taken[1] = b;
                int third = freeEdges(2);
                for (int c = 0; c < EDGE_CHOICES; c++) {
                    if (!has(third, c)) {
                        continue;
                    }
                    taken[2] = c;
                    meetMatches();
                }
            }
        }
    }

    /** The edges that link j may have beside those taken by the links before it. */
    private int freeEdges(int j) {
        int free = linkEdges[j];
        if ((patternMode[sought] & DISTINCT_EDGES) != 0) {
            for (int h = 0; h < j; h++) {
                free &= ~(1 << taken[h]);
            }
        }
        return free;
    }

    private void meetMatches() {
        int last = freeEdges(3);
        if (weighing) {
            weighMatches(last);
        } else if (wanted == NO_MATCH) {
            found += size(last);
        } else {
            passMatches(last);
        }
    }

    private void weighMatches(int last) {
        int before = edgeWeight[taken[0]] + edgeWeight[taken[1]] + edgeWeight[taken[2]];
        for (int e = 0; e < EDGE_CHOICES; e++) {
            if (has(last, e)) {
                int weight = before + edgeWeight[e];
                lightest = weight < lightest ? weight : lightest;
                heaviest = weight > heaviest ? weight : heaviest;
            }
        }
    }

    private void passMatches(int last) {
        for (int e = 0; e < EDGE_CHOICES; e++) {
            if (has(last, e)) {
                if (found == wanted) {
                    taken[3] = e;
                    pickMatch();
                }
                found++;
            }
        }
    }

    private void pickMatch() {
        for (int i = 0; i < SPOTS; i++) {
            picked[i] = placed[i];
        }
        for (int j = 0; j < LINKS; j++) {
            picked[SPOTS + j] = taken[j];
        }
    }
}
