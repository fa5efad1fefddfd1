/** The calls that take a path; what else they take is in order. */
enum PathCall {
    MAKE {
        @Override
        Object on(ClusterVolume v, int path) {
            return v.make(path, false);
        }
    },
    REMOVE {
        @Override
        Object on(ClusterVolume v, int path) {
            return v.remove(path);
        }
    },
    RENAME {
        @Override
        Object on(ClusterVolume v, int path) {
            return v.rename(path, 14);
        }
    },
    APPEND {
        @Override
        Object on(ClusterVolume v, int path) {
            return v.append(path, 7);
        }
    },
    GET {
        @Override
        Object on(ClusterVolume v, int path) {
            return v.get(path, 0);
        }
    },
    PUT {
        @Override
        Object on(ClusterVolume v, int path) {
            return v.put(path, 0, 7);
        }
    },
    SHORTEN {
        @Override
        Object on(ClusterVolume v, int path) {
            return v.shorten(path, 0);
        }
    },
    LENGTH {
        @Override
        Object on(ClusterVolume v, int path) {
            return v.length(path);
        }
    },
    NAMES {
        @Override
        Object on(ClusterVolume v, int path) {
            return v.names(path);
        }
    };

    abstract Object on(ClusterVolume v, int path);
}
